theorem dL_law_0 : decode cL_law 0 = .ok (.new 7, 3) := by decide +kernel
theorem dL_law_3 : decode cL_law 3 = .ok (.dup, 1) := by decide +kernel
theorem dL_law_4 : decode cL_law 4 = .ok (.invokespecial 9, 3) := by decide +kernel
theorem dL_law_7 : decode cL_law 7 = .ok (.astore_n 1, 1) := by decide +kernel
theorem dL_law_8 : decode cL_law 8 = .ok (.new 10, 3) := by decide +kernel
theorem dL_law_11 : decode cL_law 11 = .ok (.dup, 1) := by decide +kernel
theorem dL_law_12 : decode cL_law 12 = .ok (.invokespecial 12, 3) := by decide +kernel
theorem dL_law_15 : decode cL_law 15 = .ok (.astore_n 2, 1) := by decide +kernel
theorem dL_law_16 : decode cL_law 16 = .ok (.iconst 0, 1) := by decide +kernel
theorem dL_law_17 : decode cL_law 17 = .ok (.istore_n 3, 1) := by decide +kernel
theorem dL_law_18 : decode cL_law 18 = .ok (.iload_n 3, 1) := by decide +kernel
theorem dL_law_19 : decode cL_law 19 = .ok (.aload_n 0, 1) := by decide +kernel
theorem dL_law_20 : decode cL_law 20 = .ok (.arraylength, 1) := by decide +kernel
theorem dL_law_21 : decode cL_law 21 = .ok (.bipush 6, 2) := by decide +kernel
theorem dL_law_23 : decode cL_law 23 = .ok (.isub, 1) := by decide +kernel
theorem dL_law_24 : decode cL_law 24 = .ok (.if_icmp .gt 1555, 3) := by decide +kernel
theorem dL_law_27 : decode cL_law 27 = .ok (.aload_n 0, 1) := by decide +kernel
theorem dL_law_28 : decode cL_law 28 = .ok (.iload_n 3, 1) := by decide +kernel
theorem dL_law_29 : decode cL_law 29 = .ok (.iaload, 1) := by decide +kernel
theorem dL_law_30 : decode cL_law 30 = .ok (.bipush 63, 2) := by decide +kernel
theorem dL_law_32 : decode cL_law 32 = .ok (.iand, 1) := by decide +kernel
theorem dL_law_33 : decode cL_law 33 = .ok (.tableswitch 1540 0 45 #[199, 232, 275, 308, 331, 394, 417, 450, 493, 516, 539, 572, 605, 638, 661, 694, 737, 770, 803, 836, 859, 882, 935, 968, 981, 1024, 1077, 1110, 1143, 1176, 1209, 1232, 1265, 1298, 1321, 1334, 1357, 1380, 1403, 1426, 1439, 1453, 1467, 1490, 1503, 1526], 199) := by decide +kernel
theorem dL_law_232 : decode cL_law 232 = .ok (.aload_n 1, 1) := by decide +kernel
theorem dL_law_233 : decode cL_law 233 = .ok (.aload_n 0, 1) := by decide +kernel
theorem dL_law_234 : decode cL_law 234 = .ok (.iload_n 3, 1) := by decide +kernel
theorem dL_law_235 : decode cL_law 235 = .ok (.iconst 1, 1) := by decide +kernel
theorem dL_law_236 : decode cL_law 236 = .ok (.iadd, 1) := by decide +kernel
theorem dL_law_237 : decode cL_law 237 = .ok (.iaload, 1) := by decide +kernel
theorem dL_law_238 : decode cL_law 238 = .ok (.aload_n 0, 1) := by decide +kernel
theorem dL_law_239 : decode cL_law 239 = .ok (.iload_n 3, 1) := by decide +kernel
theorem dL_law_240 : decode cL_law 240 = .ok (.iconst 2, 1) := by decide +kernel
theorem dL_law_241 : decode cL_law 241 = .ok (.iadd, 1) := by decide +kernel
theorem dL_law_242 : decode cL_law 242 = .ok (.iaload, 1) := by decide +kernel
theorem dL_law_243 : decode cL_law 243 = .ok (.invokevirtual 13, 3) := by decide +kernel
theorem dL_law_246 : decode cL_law 246 = .ok (.aload_n 2, 1) := by decide +kernel
theorem dL_law_247 : decode cL_law 247 = .ok (.aload_n 0, 1) := by decide +kernel
theorem dL_law_248 : decode cL_law 248 = .ok (.iload_n 3, 1) := by decide +kernel
theorem dL_law_249 : decode cL_law 249 = .ok (.iconst 1, 1) := by decide +kernel
theorem dL_law_250 : decode cL_law 250 = .ok (.iadd, 1) := by decide +kernel
theorem dL_law_251 : decode cL_law 251 = .ok (.iaload, 1) := by decide +kernel
theorem dL_law_252 : decode cL_law 252 = .ok (.aload_n 0, 1) := by decide +kernel
theorem dL_law_253 : decode cL_law 253 = .ok (.iload_n 3, 1) := by decide +kernel
theorem dL_law_254 : decode cL_law 254 = .ok (.iconst 2, 1) := by decide +kernel
theorem dL_law_255 : decode cL_law 255 = .ok (.iadd, 1) := by decide +kernel
theorem dL_law_256 : decode cL_law 256 = .ok (.iaload, 1) := by decide +kernel
theorem dL_law_257 : decode cL_law 257 = .ok (.invokevirtual 17, 3) := by decide +kernel
theorem dL_law_260 : decode cL_law 260 = .ok (.if_icmp .eq 1313, 3) := by decide +kernel
theorem dL_law_263 : decode cL_law 263 = .ok (.iconst 0, 1) := by decide +kernel
theorem dL_law_264 : decode cL_law 264 = .ok (.ireturn, 1) := by decide +kernel
theorem dL_law_265 : decode cL_law 265 = .ok (.aload_n 1, 1) := by decide +kernel
theorem dL_law_266 : decode cL_law 266 = .ok (.aload_n 0, 1) := by decide +kernel
theorem dL_law_267 : decode cL_law 267 = .ok (.iload_n 3, 1) := by decide +kernel
theorem dL_law_268 : decode cL_law 268 = .ok (.iconst 1, 1) := by decide +kernel
theorem dL_law_269 : decode cL_law 269 = .ok (.iadd, 1) := by decide +kernel
theorem dL_law_270 : decode cL_law 270 = .ok (.iaload, 1) := by decide +kernel
theorem dL_law_271 : decode cL_law 271 = .ok (.aload_n 0, 1) := by decide +kernel
theorem dL_law_272 : decode cL_law 272 = .ok (.iload_n 3, 1) := by decide +kernel
theorem dL_law_273 : decode cL_law 273 = .ok (.iconst 2, 1) := by decide +kernel
theorem dL_law_274 : decode cL_law 274 = .ok (.iadd, 1) := by decide +kernel
theorem dL_law_275 : decode cL_law 275 = .ok (.iaload, 1) := by decide +kernel
theorem dL_law_276 : decode cL_law 276 = .ok (.aload_n 0, 1) := by decide +kernel
theorem dL_law_277 : decode cL_law 277 = .ok (.iload_n 3, 1) := by decide +kernel
theorem dL_law_278 : decode cL_law 278 = .ok (.iconst 3, 1) := by decide +kernel
theorem dL_law_279 : decode cL_law 279 = .ok (.iadd, 1) := by decide +kernel
theorem dL_law_280 : decode cL_law 280 = .ok (.iaload, 1) := by decide +kernel
theorem dL_law_281 : decode cL_law 281 = .ok (.invokevirtual 18, 3) := by decide +kernel
theorem dL_law_284 : decode cL_law 284 = .ok (.aload_n 2, 1) := by decide +kernel
theorem dL_law_285 : decode cL_law 285 = .ok (.aload_n 0, 1) := by decide +kernel
theorem dL_law_286 : decode cL_law 286 = .ok (.iload_n 3, 1) := by decide +kernel
theorem dL_law_287 : decode cL_law 287 = .ok (.iconst 1, 1) := by decide +kernel
theorem dL_law_288 : decode cL_law 288 = .ok (.iadd, 1) := by decide +kernel
theorem dL_law_289 : decode cL_law 289 = .ok (.iaload, 1) := by decide +kernel
theorem dL_law_290 : decode cL_law 290 = .ok (.aload_n 0, 1) := by decide +kernel
theorem dL_law_291 : decode cL_law 291 = .ok (.iload_n 3, 1) := by decide +kernel
theorem dL_law_292 : decode cL_law 292 = .ok (.iconst 2, 1) := by decide +kernel
theorem dL_law_293 : decode cL_law 293 = .ok (.iadd, 1) := by decide +kernel
theorem dL_law_294 : decode cL_law 294 = .ok (.iaload, 1) := by decide +kernel
theorem dL_law_295 : decode cL_law 295 = .ok (.aload_n 0, 1) := by decide +kernel
theorem dL_law_296 : decode cL_law 296 = .ok (.iload_n 3, 1) := by decide +kernel
theorem dL_law_297 : decode cL_law 297 = .ok (.iconst 3, 1) := by decide +kernel
theorem dL_law_298 : decode cL_law 298 = .ok (.iadd, 1) := by decide +kernel
theorem dL_law_299 : decode cL_law 299 = .ok (.iaload, 1) := by decide +kernel
theorem dL_law_300 : decode cL_law 300 = .ok (.invokevirtual 22, 3) := by decide +kernel
theorem dL_law_303 : decode cL_law 303 = .ok (.if_icmp .eq 1270, 3) := by decide +kernel
theorem dL_law_306 : decode cL_law 306 = .ok (.iconst 0, 1) := by decide +kernel
theorem dL_law_307 : decode cL_law 307 = .ok (.ireturn, 1) := by decide +kernel
theorem dL_law_308 : decode cL_law 308 = .ok (.aload_n 1, 1) := by decide +kernel
theorem dL_law_309 : decode cL_law 309 = .ok (.aload_n 0, 1) := by decide +kernel
theorem dL_law_310 : decode cL_law 310 = .ok (.iload_n 3, 1) := by decide +kernel
theorem dL_law_311 : decode cL_law 311 = .ok (.iconst 1, 1) := by decide +kernel
theorem dL_law_312 : decode cL_law 312 = .ok (.iadd, 1) := by decide +kernel
theorem dL_law_313 : decode cL_law 313 = .ok (.iaload, 1) := by decide +kernel
theorem dL_law_314 : decode cL_law 314 = .ok (.aload_n 0, 1) := by decide +kernel
theorem dL_law_315 : decode cL_law 315 = .ok (.iload_n 3, 1) := by decide +kernel
theorem dL_law_316 : decode cL_law 316 = .ok (.iconst 2, 1) := by decide +kernel
theorem dL_law_317 : decode cL_law 317 = .ok (.iadd, 1) := by decide +kernel
theorem dL_law_318 : decode cL_law 318 = .ok (.iaload, 1) := by decide +kernel
theorem dL_law_319 : decode cL_law 319 = .ok (.invokevirtual 23, 3) := by decide +kernel
theorem dL_law_322 : decode cL_law 322 = .ok (.aload_n 2, 1) := by decide +kernel
theorem dL_law_323 : decode cL_law 323 = .ok (.aload_n 0, 1) := by decide +kernel
theorem dL_law_324 : decode cL_law 324 = .ok (.iload_n 3, 1) := by decide +kernel
theorem dL_law_325 : decode cL_law 325 = .ok (.iconst 1, 1) := by decide +kernel
theorem dL_law_326 : decode cL_law 326 = .ok (.iadd, 1) := by decide +kernel
theorem dL_law_327 : decode cL_law 327 = .ok (.iaload, 1) := by decide +kernel
theorem dL_law_328 : decode cL_law 328 = .ok (.aload_n 0, 1) := by decide +kernel
theorem dL_law_329 : decode cL_law 329 = .ok (.iload_n 3, 1) := by decide +kernel
theorem dL_law_330 : decode cL_law 330 = .ok (.iconst 2, 1) := by decide +kernel
theorem dL_law_331 : decode cL_law 331 = .ok (.iadd, 1) := by decide +kernel
theorem dL_law_332 : decode cL_law 332 = .ok (.iaload, 1) := by decide +kernel
theorem dL_law_333 : decode cL_law 333 = .ok (.invokevirtual 26, 3) := by decide +kernel
theorem dL_law_336 : decode cL_law 336 = .ok (.if_icmp .eq 1237, 3) := by decide +kernel
theorem dL_law_339 : decode cL_law 339 = .ok (.iconst 0, 1) := by decide +kernel
theorem dL_law_340 : decode cL_law 340 = .ok (.ireturn, 1) := by decide +kernel
theorem dL_law_341 : decode cL_law 341 = .ok (.aload_n 1, 1) := by decide +kernel
theorem dL_law_342 : decode cL_law 342 = .ok (.aload_n 0, 1) := by decide +kernel
theorem dL_law_343 : decode cL_law 343 = .ok (.iload_n 3, 1) := by decide +kernel
theorem dL_law_344 : decode cL_law 344 = .ok (.iconst 1, 1) := by decide +kernel
theorem dL_law_345 : decode cL_law 345 = .ok (.iadd, 1) := by decide +kernel
theorem dL_law_346 : decode cL_law 346 = .ok (.iaload, 1) := by decide +kernel
theorem dL_law_347 : decode cL_law 347 = .ok (.invokevirtual 27, 3) := by decide +kernel
theorem dL_law_350 : decode cL_law 350 = .ok (.aload_n 2, 1) := by decide +kernel
theorem dL_law_351 : decode cL_law 351 = .ok (.aload_n 0, 1) := by decide +kernel
theorem dL_law_352 : decode cL_law 352 = .ok (.iload_n 3, 1) := by decide +kernel
theorem dL_law_353 : decode cL_law 353 = .ok (.iconst 1, 1) := by decide +kernel
theorem dL_law_354 : decode cL_law 354 = .ok (.iadd, 1) := by decide +kernel
theorem dL_law_355 : decode cL_law 355 = .ok (.iaload, 1) := by decide +kernel
theorem dL_law_356 : decode cL_law 356 = .ok (.invokevirtual 31, 3) := by decide +kernel
theorem dL_law_359 : decode cL_law 359 = .ok (.if_icmp .eq 1214, 3) := by decide +kernel
theorem dL_law_362 : decode cL_law 362 = .ok (.iconst 0, 1) := by decide +kernel
theorem dL_law_363 : decode cL_law 363 = .ok (.ireturn, 1) := by decide +kernel
theorem dL_law_364 : decode cL_law 364 = .ok (.aload_n 1, 1) := by decide +kernel
theorem dL_law_365 : decode cL_law 365 = .ok (.aload_n 0, 1) := by decide +kernel
theorem dL_law_366 : decode cL_law 366 = .ok (.iload_n 3, 1) := by decide +kernel
theorem dL_law_367 : decode cL_law 367 = .ok (.iconst 1, 1) := by decide +kernel
theorem dL_law_368 : decode cL_law 368 = .ok (.iadd, 1) := by decide +kernel
theorem dL_law_369 : decode cL_law 369 = .ok (.iaload, 1) := by decide +kernel
theorem dL_law_370 : decode cL_law 370 = .ok (.aload_n 0, 1) := by decide +kernel
theorem dL_law_371 : decode cL_law 371 = .ok (.iload_n 3, 1) := by decide +kernel
theorem dL_law_372 : decode cL_law 372 = .ok (.iconst 2, 1) := by decide +kernel
theorem dL_law_373 : decode cL_law 373 = .ok (.iadd, 1) := by decide +kernel
theorem dL_law_374 : decode cL_law 374 = .ok (.iaload, 1) := by decide +kernel
theorem dL_law_375 : decode cL_law 375 = .ok (.aload_n 0, 1) := by decide +kernel
theorem dL_law_376 : decode cL_law 376 = .ok (.iload_n 3, 1) := by decide +kernel
theorem dL_law_377 : decode cL_law 377 = .ok (.iconst 3, 1) := by decide +kernel
theorem dL_law_378 : decode cL_law 378 = .ok (.iadd, 1) := by decide +kernel
theorem dL_law_379 : decode cL_law 379 = .ok (.iaload, 1) := by decide +kernel
theorem dL_law_380 : decode cL_law 380 = .ok (.aload_n 0, 1) := by decide +kernel
theorem dL_law_381 : decode cL_law 381 = .ok (.iload_n 3, 1) := by decide +kernel
theorem dL_law_382 : decode cL_law 382 = .ok (.iconst 4, 1) := by decide +kernel
theorem dL_law_383 : decode cL_law 383 = .ok (.iadd, 1) := by decide +kernel
theorem dL_law_384 : decode cL_law 384 = .ok (.iaload, 1) := by decide +kernel
theorem dL_law_385 : decode cL_law 385 = .ok (.aload_n 0, 1) := by decide +kernel
theorem dL_law_386 : decode cL_law 386 = .ok (.iload_n 3, 1) := by decide +kernel
theorem dL_law_387 : decode cL_law 387 = .ok (.iconst 5, 1) := by decide +kernel
theorem dL_law_388 : decode cL_law 388 = .ok (.iadd, 1) := by decide +kernel
theorem dL_law_389 : decode cL_law 389 = .ok (.iaload, 1) := by decide +kernel
theorem dL_law_390 : decode cL_law 390 = .ok (.invokevirtual 32, 3) := by decide +kernel
theorem dL_law_393 : decode cL_law 393 = .ok (.aload_n 2, 1) := by decide +kernel
theorem dL_law_394 : decode cL_law 394 = .ok (.aload_n 0, 1) := by decide +kernel
theorem dL_law_395 : decode cL_law 395 = .ok (.iload_n 3, 1) := by decide +kernel
theorem dL_law_396 : decode cL_law 396 = .ok (.iconst 1, 1) := by decide +kernel
theorem dL_law_397 : decode cL_law 397 = .ok (.iadd, 1) := by decide +kernel
theorem dL_law_398 : decode cL_law 398 = .ok (.iaload, 1) := by decide +kernel
theorem dL_law_399 : decode cL_law 399 = .ok (.aload_n 0, 1) := by decide +kernel
theorem dL_law_400 : decode cL_law 400 = .ok (.iload_n 3, 1) := by decide +kernel
theorem dL_law_401 : decode cL_law 401 = .ok (.iconst 2, 1) := by decide +kernel
theorem dL_law_402 : decode cL_law 402 = .ok (.iadd, 1) := by decide +kernel
theorem dL_law_403 : decode cL_law 403 = .ok (.iaload, 1) := by decide +kernel
theorem dL_law_404 : decode cL_law 404 = .ok (.aload_n 0, 1) := by decide +kernel
theorem dL_law_405 : decode cL_law 405 = .ok (.iload_n 3, 1) := by decide +kernel
theorem dL_law_406 : decode cL_law 406 = .ok (.iconst 3, 1) := by decide +kernel
theorem dL_law_407 : decode cL_law 407 = .ok (.iadd, 1) := by decide +kernel
theorem dL_law_408 : decode cL_law 408 = .ok (.iaload, 1) := by decide +kernel
theorem dL_law_409 : decode cL_law 409 = .ok (.aload_n 0, 1) := by decide +kernel
theorem dL_law_410 : decode cL_law 410 = .ok (.iload_n 3, 1) := by decide +kernel
theorem dL_law_411 : decode cL_law 411 = .ok (.iconst 4, 1) := by decide +kernel
theorem dL_law_412 : decode cL_law 412 = .ok (.iadd, 1) := by decide +kernel
theorem dL_law_413 : decode cL_law 413 = .ok (.iaload, 1) := by decide +kernel
theorem dL_law_414 : decode cL_law 414 = .ok (.aload_n 0, 1) := by decide +kernel
theorem dL_law_415 : decode cL_law 415 = .ok (.iload_n 3, 1) := by decide +kernel
theorem dL_law_416 : decode cL_law 416 = .ok (.iconst 5, 1) := by decide +kernel
theorem dL_law_417 : decode cL_law 417 = .ok (.iadd, 1) := by decide +kernel
theorem dL_law_418 : decode cL_law 418 = .ok (.iaload, 1) := by decide +kernel
theorem dL_law_419 : decode cL_law 419 = .ok (.invokevirtual 36, 3) := by decide +kernel
theorem dL_law_422 : decode cL_law 422 = .ok (.if_icmp .eq 1151, 3) := by decide +kernel
theorem dL_law_425 : decode cL_law 425 = .ok (.iconst 0, 1) := by decide +kernel
theorem dL_law_426 : decode cL_law 426 = .ok (.ireturn, 1) := by decide +kernel
theorem dL_law_427 : decode cL_law 427 = .ok (.aload_n 1, 1) := by decide +kernel
theorem dL_law_428 : decode cL_law 428 = .ok (.aload_n 0, 1) := by decide +kernel
theorem dL_law_429 : decode cL_law 429 = .ok (.iload_n 3, 1) := by decide +kernel
theorem dL_law_430 : decode cL_law 430 = .ok (.iconst 1, 1) := by decide +kernel
theorem dL_law_431 : decode cL_law 431 = .ok (.iadd, 1) := by decide +kernel
theorem dL_law_432 : decode cL_law 432 = .ok (.iaload, 1) := by decide +kernel
theorem dL_law_433 : decode cL_law 433 = .ok (.invokevirtual 37, 3) := by decide +kernel
theorem dL_law_436 : decode cL_law 436 = .ok (.aload_n 2, 1) := by decide +kernel
theorem dL_law_437 : decode cL_law 437 = .ok (.aload_n 0, 1) := by decide +kernel
theorem dL_law_438 : decode cL_law 438 = .ok (.iload_n 3, 1) := by decide +kernel
theorem dL_law_439 : decode cL_law 439 = .ok (.iconst 1, 1) := by decide +kernel
theorem dL_law_440 : decode cL_law 440 = .ok (.iadd, 1) := by decide +kernel
theorem dL_law_441 : decode cL_law 441 = .ok (.iaload, 1) := by decide +kernel
theorem dL_law_442 : decode cL_law 442 = .ok (.invokevirtual 40, 3) := by decide +kernel
theorem dL_law_445 : decode cL_law 445 = .ok (.if_icmp .eq 1128, 3) := by decide +kernel
theorem dL_law_448 : decode cL_law 448 = .ok (.iconst 0, 1) := by decide +kernel
theorem dL_law_449 : decode cL_law 449 = .ok (.ireturn, 1) := by decide +kernel
theorem dL_law_450 : decode cL_law 450 = .ok (.aload_n 1, 1) := by decide +kernel
theorem dL_law_451 : decode cL_law 451 = .ok (.aload_n 0, 1) := by decide +kernel
theorem dL_law_452 : decode cL_law 452 = .ok (.iload_n 3, 1) := by decide +kernel
theorem dL_law_453 : decode cL_law 453 = .ok (.iconst 1, 1) := by decide +kernel
theorem dL_law_454 : decode cL_law 454 = .ok (.iadd, 1) := by decide +kernel
theorem dL_law_455 : decode cL_law 455 = .ok (.iaload, 1) := by decide +kernel
theorem dL_law_456 : decode cL_law 456 = .ok (.aload_n 0, 1) := by decide +kernel
theorem dL_law_457 : decode cL_law 457 = .ok (.iload_n 3, 1) := by decide +kernel
theorem dL_law_458 : decode cL_law 458 = .ok (.iconst 2, 1) := by decide +kernel
theorem dL_law_459 : decode cL_law 459 = .ok (.iadd, 1) := by decide +kernel
theorem dL_law_460 : decode cL_law 460 = .ok (.iaload, 1) := by decide +kernel
theorem dL_law_461 : decode cL_law 461 = .ok (.invokevirtual 41, 3) := by decide +kernel
theorem dL_law_464 : decode cL_law 464 = .ok (.aload_n 2, 1) := by decide +kernel
theorem dL_law_465 : decode cL_law 465 = .ok (.aload_n 0, 1) := by decide +kernel
theorem dL_law_466 : decode cL_law 466 = .ok (.iload_n 3, 1) := by decide +kernel
theorem dL_law_467 : decode cL_law 467 = .ok (.iconst 1, 1) := by decide +kernel
theorem dL_law_468 : decode cL_law 468 = .ok (.iadd, 1) := by decide +kernel
theorem dL_law_469 : decode cL_law 469 = .ok (.iaload, 1) := by decide +kernel
theorem dL_law_470 : decode cL_law 470 = .ok (.aload_n 0, 1) := by decide +kernel
theorem dL_law_471 : decode cL_law 471 = .ok (.iload_n 3, 1) := by decide +kernel
theorem dL_law_472 : decode cL_law 472 = .ok (.iconst 2, 1) := by decide +kernel
theorem dL_law_473 : decode cL_law 473 = .ok (.iadd, 1) := by decide +kernel
theorem dL_law_474 : decode cL_law 474 = .ok (.iaload, 1) := by decide +kernel
theorem dL_law_475 : decode cL_law 475 = .ok (.invokevirtual 44, 3) := by decide +kernel
theorem dL_law_478 : decode cL_law 478 = .ok (.if_icmp .eq 1095, 3) := by decide +kernel
theorem dL_law_481 : decode cL_law 481 = .ok (.iconst 0, 1) := by decide +kernel
theorem dL_law_482 : decode cL_law 482 = .ok (.ireturn, 1) := by decide +kernel
theorem dL_law_483 : decode cL_law 483 = .ok (.aload_n 1, 1) := by decide +kernel
theorem dL_law_484 : decode cL_law 484 = .ok (.aload_n 0, 1) := by decide +kernel
theorem dL_law_485 : decode cL_law 485 = .ok (.iload_n 3, 1) := by decide +kernel
theorem dL_law_486 : decode cL_law 486 = .ok (.iconst 1, 1) := by decide +kernel
theorem dL_law_487 : decode cL_law 487 = .ok (.iadd, 1) := by decide +kernel
theorem dL_law_488 : decode cL_law 488 = .ok (.iaload, 1) := by decide +kernel
theorem dL_law_489 : decode cL_law 489 = .ok (.aload_n 0, 1) := by decide +kernel
theorem dL_law_490 : decode cL_law 490 = .ok (.iload_n 3, 1) := by decide +kernel
theorem dL_law_491 : decode cL_law 491 = .ok (.iconst 2, 1) := by decide +kernel
theorem dL_law_492 : decode cL_law 492 = .ok (.iadd, 1) := by decide +kernel
theorem dL_law_493 : decode cL_law 493 = .ok (.iaload, 1) := by decide +kernel
theorem dL_law_494 : decode cL_law 494 = .ok (.aload_n 0, 1) := by decide +kernel
theorem dL_law_495 : decode cL_law 495 = .ok (.iload_n 3, 1) := by decide +kernel
theorem dL_law_496 : decode cL_law 496 = .ok (.iconst 3, 1) := by decide +kernel
theorem dL_law_497 : decode cL_law 497 = .ok (.iadd, 1) := by decide +kernel
theorem dL_law_498 : decode cL_law 498 = .ok (.iaload, 1) := by decide +kernel
theorem dL_law_499 : decode cL_law 499 = .ok (.invokevirtual 45, 3) := by decide +kernel
theorem dL_law_502 : decode cL_law 502 = .ok (.aload_n 2, 1) := by decide +kernel
theorem dL_law_503 : decode cL_law 503 = .ok (.aload_n 0, 1) := by decide +kernel
theorem dL_law_504 : decode cL_law 504 = .ok (.iload_n 3, 1) := by decide +kernel
theorem dL_law_505 : decode cL_law 505 = .ok (.iconst 1, 1) := by decide +kernel
theorem dL_law_506 : decode cL_law 506 = .ok (.iadd, 1) := by decide +kernel
theorem dL_law_507 : decode cL_law 507 = .ok (.iaload, 1) := by decide +kernel
theorem dL_law_508 : decode cL_law 508 = .ok (.aload_n 0, 1) := by decide +kernel
theorem dL_law_509 : decode cL_law 509 = .ok (.iload_n 3, 1) := by decide +kernel
theorem dL_law_510 : decode cL_law 510 = .ok (.iconst 2, 1) := by decide +kernel
theorem dL_law_511 : decode cL_law 511 = .ok (.iadd, 1) := by decide +kernel
theorem dL_law_512 : decode cL_law 512 = .ok (.iaload, 1) := by decide +kernel
theorem dL_law_513 : decode cL_law 513 = .ok (.aload_n 0, 1) := by decide +kernel
theorem dL_law_514 : decode cL_law 514 = .ok (.iload_n 3, 1) := by decide +kernel
theorem dL_law_515 : decode cL_law 515 = .ok (.iconst 3, 1) := by decide +kernel
theorem dL_law_516 : decode cL_law 516 = .ok (.iadd, 1) := by decide +kernel
theorem dL_law_517 : decode cL_law 517 = .ok (.iaload, 1) := by decide +kernel
theorem dL_law_518 : decode cL_law 518 = .ok (.invokevirtual 48, 3) := by decide +kernel
theorem dL_law_521 : decode cL_law 521 = .ok (.if_icmp .eq 1052, 3) := by decide +kernel
theorem dL_law_524 : decode cL_law 524 = .ok (.iconst 0, 1) := by decide +kernel
theorem dL_law_525 : decode cL_law 525 = .ok (.ireturn, 1) := by decide +kernel
theorem dL_law_526 : decode cL_law 526 = .ok (.aload_n 1, 1) := by decide +kernel
theorem dL_law_527 : decode cL_law 527 = .ok (.aload_n 0, 1) := by decide +kernel
theorem dL_law_528 : decode cL_law 528 = .ok (.iload_n 3, 1) := by decide +kernel
theorem dL_law_529 : decode cL_law 529 = .ok (.iconst 1, 1) := by decide +kernel
theorem dL_law_530 : decode cL_law 530 = .ok (.iadd, 1) := by decide +kernel
theorem dL_law_531 : decode cL_law 531 = .ok (.iaload, 1) := by decide +kernel
theorem dL_law_532 : decode cL_law 532 = .ok (.invokevirtual 49, 3) := by decide +kernel
theorem dL_law_535 : decode cL_law 535 = .ok (.aload_n 2, 1) := by decide +kernel
theorem dL_law_536 : decode cL_law 536 = .ok (.aload_n 0, 1) := by decide +kernel
theorem dL_law_537 : decode cL_law 537 = .ok (.iload_n 3, 1) := by decide +kernel
theorem dL_law_538 : decode cL_law 538 = .ok (.iconst 1, 1) := by decide +kernel
theorem dL_law_539 : decode cL_law 539 = .ok (.iadd, 1) := by decide +kernel
theorem dL_law_540 : decode cL_law 540 = .ok (.iaload, 1) := by decide +kernel
theorem dL_law_541 : decode cL_law 541 = .ok (.invokevirtual 52, 3) := by decide +kernel
theorem dL_law_544 : decode cL_law 544 = .ok (.if_icmp .eq 1029, 3) := by decide +kernel
theorem dL_law_547 : decode cL_law 547 = .ok (.iconst 0, 1) := by decide +kernel
theorem dL_law_548 : decode cL_law 548 = .ok (.ireturn, 1) := by decide +kernel
theorem dL_law_549 : decode cL_law 549 = .ok (.aload_n 1, 1) := by decide +kernel
theorem dL_law_550 : decode cL_law 550 = .ok (.aload_n 0, 1) := by decide +kernel
theorem dL_law_551 : decode cL_law 551 = .ok (.iload_n 3, 1) := by decide +kernel
theorem dL_law_552 : decode cL_law 552 = .ok (.iconst 1, 1) := by decide +kernel
theorem dL_law_553 : decode cL_law 553 = .ok (.iadd, 1) := by decide +kernel
theorem dL_law_554 : decode cL_law 554 = .ok (.iaload, 1) := by decide +kernel
theorem dL_law_555 : decode cL_law 555 = .ok (.invokevirtual 53, 3) := by decide +kernel
theorem dL_law_558 : decode cL_law 558 = .ok (.aload_n 2, 1) := by decide +kernel
theorem dL_law_559 : decode cL_law 559 = .ok (.aload_n 0, 1) := by decide +kernel
theorem dL_law_560 : decode cL_law 560 = .ok (.iload_n 3, 1) := by decide +kernel
theorem dL_law_561 : decode cL_law 561 = .ok (.iconst 1, 1) := by decide +kernel
theorem dL_law_562 : decode cL_law 562 = .ok (.iadd, 1) := by decide +kernel
theorem dL_law_563 : decode cL_law 563 = .ok (.iaload, 1) := by decide +kernel
theorem dL_law_564 : decode cL_law 564 = .ok (.invokevirtual 56, 3) := by decide +kernel
theorem dL_law_567 : decode cL_law 567 = .ok (.if_icmp .eq 1006, 3) := by decide +kernel
theorem dL_law_570 : decode cL_law 570 = .ok (.iconst 0, 1) := by decide +kernel
theorem dL_law_571 : decode cL_law 571 = .ok (.ireturn, 1) := by decide +kernel
theorem dL_law_572 : decode cL_law 572 = .ok (.aload_n 1, 1) := by decide +kernel
theorem dL_law_573 : decode cL_law 573 = .ok (.aload_n 0, 1) := by decide +kernel
theorem dL_law_574 : decode cL_law 574 = .ok (.iload_n 3, 1) := by decide +kernel
theorem dL_law_575 : decode cL_law 575 = .ok (.iconst 1, 1) := by decide +kernel
theorem dL_law_576 : decode cL_law 576 = .ok (.iadd, 1) := by decide +kernel
theorem dL_law_577 : decode cL_law 577 = .ok (.iaload, 1) := by decide +kernel
theorem dL_law_578 : decode cL_law 578 = .ok (.aload_n 0, 1) := by decide +kernel
theorem dL_law_579 : decode cL_law 579 = .ok (.iload_n 3, 1) := by decide +kernel
theorem dL_law_580 : decode cL_law 580 = .ok (.iconst 2, 1) := by decide +kernel
theorem dL_law_581 : decode cL_law 581 = .ok (.iadd, 1) := by decide +kernel
theorem dL_law_582 : decode cL_law 582 = .ok (.iaload, 1) := by decide +kernel
theorem dL_law_583 : decode cL_law 583 = .ok (.invokevirtual 57, 3) := by decide +kernel
theorem dL_law_586 : decode cL_law 586 = .ok (.aload_n 2, 1) := by decide +kernel
theorem dL_law_587 : decode cL_law 587 = .ok (.aload_n 0, 1) := by decide +kernel
theorem dL_law_588 : decode cL_law 588 = .ok (.iload_n 3, 1) := by decide +kernel
theorem dL_law_589 : decode cL_law 589 = .ok (.iconst 1, 1) := by decide +kernel
theorem dL_law_590 : decode cL_law 590 = .ok (.iadd, 1) := by decide +kernel
theorem dL_law_591 : decode cL_law 591 = .ok (.iaload, 1) := by decide +kernel
theorem dL_law_592 : decode cL_law 592 = .ok (.aload_n 0, 1) := by decide +kernel
theorem dL_law_593 : decode cL_law 593 = .ok (.iload_n 3, 1) := by decide +kernel
theorem dL_law_594 : decode cL_law 594 = .ok (.iconst 2, 1) := by decide +kernel
theorem dL_law_595 : decode cL_law 595 = .ok (.iadd, 1) := by decide +kernel
theorem dL_law_596 : decode cL_law 596 = .ok (.iaload, 1) := by decide +kernel
theorem dL_law_597 : decode cL_law 597 = .ok (.invokevirtual 60, 3) := by decide +kernel
theorem dL_law_600 : decode cL_law 600 = .ok (.if_icmp .eq 973, 3) := by decide +kernel
theorem dL_law_603 : decode cL_law 603 = .ok (.iconst 0, 1) := by decide +kernel
theorem dL_law_604 : decode cL_law 604 = .ok (.ireturn, 1) := by decide +kernel
theorem dL_law_605 : decode cL_law 605 = .ok (.aload_n 1, 1) := by decide +kernel
theorem dL_law_606 : decode cL_law 606 = .ok (.aload_n 0, 1) := by decide +kernel
theorem dL_law_607 : decode cL_law 607 = .ok (.iload_n 3, 1) := by decide +kernel
theorem dL_law_608 : decode cL_law 608 = .ok (.iconst 1, 1) := by decide +kernel
theorem dL_law_609 : decode cL_law 609 = .ok (.iadd, 1) := by decide +kernel
theorem dL_law_610 : decode cL_law 610 = .ok (.iaload, 1) := by decide +kernel
theorem dL_law_611 : decode cL_law 611 = .ok (.aload_n 0, 1) := by decide +kernel
theorem dL_law_612 : decode cL_law 612 = .ok (.iload_n 3, 1) := by decide +kernel
theorem dL_law_613 : decode cL_law 613 = .ok (.iconst 2, 1) := by decide +kernel
theorem dL_law_614 : decode cL_law 614 = .ok (.iadd, 1) := by decide +kernel
theorem dL_law_615 : decode cL_law 615 = .ok (.iaload, 1) := by decide +kernel
theorem dL_law_616 : decode cL_law 616 = .ok (.invokevirtual 61, 3) := by decide +kernel
theorem dL_law_619 : decode cL_law 619 = .ok (.aload_n 2, 1) := by decide +kernel
theorem dL_law_620 : decode cL_law 620 = .ok (.aload_n 0, 1) := by decide +kernel
theorem dL_law_621 : decode cL_law 621 = .ok (.iload_n 3, 1) := by decide +kernel
theorem dL_law_622 : decode cL_law 622 = .ok (.iconst 1, 1) := by decide +kernel
theorem dL_law_623 : decode cL_law 623 = .ok (.iadd, 1) := by decide +kernel
theorem dL_law_624 : decode cL_law 624 = .ok (.iaload, 1) := by decide +kernel
theorem dL_law_625 : decode cL_law 625 = .ok (.aload_n 0, 1) := by decide +kernel
theorem dL_law_626 : decode cL_law 626 = .ok (.iload_n 3, 1) := by decide +kernel
theorem dL_law_627 : decode cL_law 627 = .ok (.iconst 2, 1) := by decide +kernel
theorem dL_law_628 : decode cL_law 628 = .ok (.iadd, 1) := by decide +kernel
theorem dL_law_629 : decode cL_law 629 = .ok (.iaload, 1) := by decide +kernel
theorem dL_law_630 : decode cL_law 630 = .ok (.invokevirtual 64, 3) := by decide +kernel
theorem dL_law_633 : decode cL_law 633 = .ok (.if_icmp .eq 940, 3) := by decide +kernel
theorem dL_law_636 : decode cL_law 636 = .ok (.iconst 0, 1) := by decide +kernel
theorem dL_law_637 : decode cL_law 637 = .ok (.ireturn, 1) := by decide +kernel
theorem dL_law_638 : decode cL_law 638 = .ok (.aload_n 1, 1) := by decide +kernel
theorem dL_law_639 : decode cL_law 639 = .ok (.aload_n 0, 1) := by decide +kernel
theorem dL_law_640 : decode cL_law 640 = .ok (.iload_n 3, 1) := by decide +kernel
theorem dL_law_641 : decode cL_law 641 = .ok (.iconst 1, 1) := by decide +kernel
theorem dL_law_642 : decode cL_law 642 = .ok (.iadd, 1) := by decide +kernel
theorem dL_law_643 : decode cL_law 643 = .ok (.iaload, 1) := by decide +kernel
theorem dL_law_644 : decode cL_law 644 = .ok (.aload_n 0, 1) := by decide +kernel
theorem dL_law_645 : decode cL_law 645 = .ok (.iload_n 3, 1) := by decide +kernel
theorem dL_law_646 : decode cL_law 646 = .ok (.iconst 2, 1) := by decide +kernel
theorem dL_law_647 : decode cL_law 647 = .ok (.iadd, 1) := by decide +kernel
theorem dL_law_648 : decode cL_law 648 = .ok (.iaload, 1) := by decide +kernel
theorem dL_law_649 : decode cL_law 649 = .ok (.invokevirtual 65, 3) := by decide +kernel
theorem dL_law_652 : decode cL_law 652 = .ok (.aload_n 2, 1) := by decide +kernel
theorem dL_law_653 : decode cL_law 653 = .ok (.aload_n 0, 1) := by decide +kernel
theorem dL_law_654 : decode cL_law 654 = .ok (.iload_n 3, 1) := by decide +kernel
theorem dL_law_655 : decode cL_law 655 = .ok (.iconst 1, 1) := by decide +kernel
theorem dL_law_656 : decode cL_law 656 = .ok (.iadd, 1) := by decide +kernel
theorem dL_law_657 : decode cL_law 657 = .ok (.iaload, 1) := by decide +kernel
theorem dL_law_658 : decode cL_law 658 = .ok (.aload_n 0, 1) := by decide +kernel
theorem dL_law_659 : decode cL_law 659 = .ok (.iload_n 3, 1) := by decide +kernel
theorem dL_law_660 : decode cL_law 660 = .ok (.iconst 2, 1) := by decide +kernel
theorem dL_law_661 : decode cL_law 661 = .ok (.iadd, 1) := by decide +kernel
theorem dL_law_662 : decode cL_law 662 = .ok (.iaload, 1) := by decide +kernel
theorem dL_law_663 : decode cL_law 663 = .ok (.invokevirtual 68, 3) := by decide +kernel
theorem dL_law_666 : decode cL_law 666 = .ok (.if_icmp .eq 907, 3) := by decide +kernel
theorem dL_law_669 : decode cL_law 669 = .ok (.iconst 0, 1) := by decide +kernel
theorem dL_law_670 : decode cL_law 670 = .ok (.ireturn, 1) := by decide +kernel
theorem dL_law_671 : decode cL_law 671 = .ok (.aload_n 1, 1) := by decide +kernel
theorem dL_law_672 : decode cL_law 672 = .ok (.aload_n 0, 1) := by decide +kernel
theorem dL_law_673 : decode cL_law 673 = .ok (.iload_n 3, 1) := by decide +kernel
theorem dL_law_674 : decode cL_law 674 = .ok (.iconst 1, 1) := by decide +kernel
theorem dL_law_675 : decode cL_law 675 = .ok (.iadd, 1) := by decide +kernel
theorem dL_law_676 : decode cL_law 676 = .ok (.iaload, 1) := by decide +kernel
theorem dL_law_677 : decode cL_law 677 = .ok (.invokevirtual 69, 3) := by decide +kernel
theorem dL_law_680 : decode cL_law 680 = .ok (.aload_n 2, 1) := by decide +kernel
theorem dL_law_681 : decode cL_law 681 = .ok (.aload_n 0, 1) := by decide +kernel
theorem dL_law_682 : decode cL_law 682 = .ok (.iload_n 3, 1) := by decide +kernel
theorem dL_law_683 : decode cL_law 683 = .ok (.iconst 1, 1) := by decide +kernel
theorem dL_law_684 : decode cL_law 684 = .ok (.iadd, 1) := by decide +kernel
theorem dL_law_685 : decode cL_law 685 = .ok (.iaload, 1) := by decide +kernel
theorem dL_law_686 : decode cL_law 686 = .ok (.invokevirtual 72, 3) := by decide +kernel
theorem dL_law_689 : decode cL_law 689 = .ok (.if_icmp .eq 884, 3) := by decide +kernel
theorem dL_law_692 : decode cL_law 692 = .ok (.iconst 0, 1) := by decide +kernel
theorem dL_law_693 : decode cL_law 693 = .ok (.ireturn, 1) := by decide +kernel
theorem dL_law_694 : decode cL_law 694 = .ok (.aload_n 1, 1) := by decide +kernel
theorem dL_law_695 : decode cL_law 695 = .ok (.aload_n 0, 1) := by decide +kernel
theorem dL_law_696 : decode cL_law 696 = .ok (.iload_n 3, 1) := by decide +kernel
theorem dL_law_697 : decode cL_law 697 = .ok (.iconst 1, 1) := by decide +kernel
theorem dL_law_698 : decode cL_law 698 = .ok (.iadd, 1) := by decide +kernel
theorem dL_law_699 : decode cL_law 699 = .ok (.iaload, 1) := by decide +kernel
theorem dL_law_700 : decode cL_law 700 = .ok (.aload_n 0, 1) := by decide +kernel
theorem dL_law_701 : decode cL_law 701 = .ok (.iload_n 3, 1) := by decide +kernel
theorem dL_law_702 : decode cL_law 702 = .ok (.iconst 2, 1) := by decide +kernel
theorem dL_law_703 : decode cL_law 703 = .ok (.iadd, 1) := by decide +kernel
theorem dL_law_704 : decode cL_law 704 = .ok (.iaload, 1) := by decide +kernel
theorem dL_law_705 : decode cL_law 705 = .ok (.invokevirtual 73, 3) := by decide +kernel
theorem dL_law_708 : decode cL_law 708 = .ok (.aload_n 2, 1) := by decide +kernel
theorem dL_law_709 : decode cL_law 709 = .ok (.aload_n 0, 1) := by decide +kernel
theorem dL_law_710 : decode cL_law 710 = .ok (.iload_n 3, 1) := by decide +kernel
theorem dL_law_711 : decode cL_law 711 = .ok (.iconst 1, 1) := by decide +kernel
theorem dL_law_712 : decode cL_law 712 = .ok (.iadd, 1) := by decide +kernel
theorem dL_law_713 : decode cL_law 713 = .ok (.iaload, 1) := by decide +kernel
theorem dL_law_714 : decode cL_law 714 = .ok (.aload_n 0, 1) := by decide +kernel
theorem dL_law_715 : decode cL_law 715 = .ok (.iload_n 3, 1) := by decide +kernel
theorem dL_law_716 : decode cL_law 716 = .ok (.iconst 2, 1) := by decide +kernel
theorem dL_law_717 : decode cL_law 717 = .ok (.iadd, 1) := by decide +kernel
theorem dL_law_718 : decode cL_law 718 = .ok (.iaload, 1) := by decide +kernel
theorem dL_law_719 : decode cL_law 719 = .ok (.invokevirtual 76, 3) := by decide +kernel
theorem dL_law_722 : decode cL_law 722 = .ok (.if_icmp .eq 851, 3) := by decide +kernel
theorem dL_law_725 : decode cL_law 725 = .ok (.iconst 0, 1) := by decide +kernel
theorem dL_law_726 : decode cL_law 726 = .ok (.ireturn, 1) := by decide +kernel
theorem dL_law_727 : decode cL_law 727 = .ok (.aload_n 1, 1) := by decide +kernel
theorem dL_law_728 : decode cL_law 728 = .ok (.aload_n 0, 1) := by decide +kernel
theorem dL_law_729 : decode cL_law 729 = .ok (.iload_n 3, 1) := by decide +kernel
theorem dL_law_730 : decode cL_law 730 = .ok (.iconst 1, 1) := by decide +kernel
theorem dL_law_731 : decode cL_law 731 = .ok (.iadd, 1) := by decide +kernel
theorem dL_law_732 : decode cL_law 732 = .ok (.iaload, 1) := by decide +kernel
theorem dL_law_733 : decode cL_law 733 = .ok (.aload_n 0, 1) := by decide +kernel
theorem dL_law_734 : decode cL_law 734 = .ok (.iload_n 3, 1) := by decide +kernel
theorem dL_law_735 : decode cL_law 735 = .ok (.iconst 2, 1) := by decide +kernel
theorem dL_law_736 : decode cL_law 736 = .ok (.iadd, 1) := by decide +kernel
theorem dL_law_737 : decode cL_law 737 = .ok (.iaload, 1) := by decide +kernel
theorem dL_law_738 : decode cL_law 738 = .ok (.aload_n 0, 1) := by decide +kernel
theorem dL_law_739 : decode cL_law 739 = .ok (.iload_n 3, 1) := by decide +kernel
theorem dL_law_740 : decode cL_law 740 = .ok (.iconst 3, 1) := by decide +kernel
theorem dL_law_741 : decode cL_law 741 = .ok (.iadd, 1) := by decide +kernel
theorem dL_law_742 : decode cL_law 742 = .ok (.iaload, 1) := by decide +kernel
theorem dL_law_743 : decode cL_law 743 = .ok (.invokevirtual 77, 3) := by decide +kernel
theorem dL_law_746 : decode cL_law 746 = .ok (.aload_n 2, 1) := by decide +kernel
theorem dL_law_747 : decode cL_law 747 = .ok (.aload_n 0, 1) := by decide +kernel
theorem dL_law_748 : decode cL_law 748 = .ok (.iload_n 3, 1) := by decide +kernel
theorem dL_law_749 : decode cL_law 749 = .ok (.iconst 1, 1) := by decide +kernel
theorem dL_law_750 : decode cL_law 750 = .ok (.iadd, 1) := by decide +kernel
theorem dL_law_751 : decode cL_law 751 = .ok (.iaload, 1) := by decide +kernel
theorem dL_law_752 : decode cL_law 752 = .ok (.aload_n 0, 1) := by decide +kernel
theorem dL_law_753 : decode cL_law 753 = .ok (.iload_n 3, 1) := by decide +kernel
theorem dL_law_754 : decode cL_law 754 = .ok (.iconst 2, 1) := by decide +kernel
theorem dL_law_755 : decode cL_law 755 = .ok (.iadd, 1) := by decide +kernel
theorem dL_law_756 : decode cL_law 756 = .ok (.iaload, 1) := by decide +kernel
theorem dL_law_757 : decode cL_law 757 = .ok (.aload_n 0, 1) := by decide +kernel
theorem dL_law_758 : decode cL_law 758 = .ok (.iload_n 3, 1) := by decide +kernel
theorem dL_law_759 : decode cL_law 759 = .ok (.iconst 3, 1) := by decide +kernel
theorem dL_law_760 : decode cL_law 760 = .ok (.iadd, 1) := by decide +kernel
theorem dL_law_761 : decode cL_law 761 = .ok (.iaload, 1) := by decide +kernel
theorem dL_law_762 : decode cL_law 762 = .ok (.invokevirtual 80, 3) := by decide +kernel
theorem dL_law_765 : decode cL_law 765 = .ok (.if_icmp .eq 808, 3) := by decide +kernel
theorem dL_law_768 : decode cL_law 768 = .ok (.iconst 0, 1) := by decide +kernel
theorem dL_law_769 : decode cL_law 769 = .ok (.ireturn, 1) := by decide +kernel
theorem dL_law_770 : decode cL_law 770 = .ok (.aload_n 1, 1) := by decide +kernel
theorem dL_law_771 : decode cL_law 771 = .ok (.aload_n 0, 1) := by decide +kernel
theorem dL_law_772 : decode cL_law 772 = .ok (.iload_n 3, 1) := by decide +kernel
theorem dL_law_773 : decode cL_law 773 = .ok (.iconst 1, 1) := by decide +kernel
theorem dL_law_774 : decode cL_law 774 = .ok (.iadd, 1) := by decide +kernel
theorem dL_law_775 : decode cL_law 775 = .ok (.iaload, 1) := by decide +kernel
theorem dL_law_776 : decode cL_law 776 = .ok (.aload_n 0, 1) := by decide +kernel
theorem dL_law_777 : decode cL_law 777 = .ok (.iload_n 3, 1) := by decide +kernel
theorem dL_law_778 : decode cL_law 778 = .ok (.iconst 2, 1) := by decide +kernel
theorem dL_law_779 : decode cL_law 779 = .ok (.iadd, 1) := by decide +kernel
theorem dL_law_780 : decode cL_law 780 = .ok (.iaload, 1) := by decide +kernel
theorem dL_law_781 : decode cL_law 781 = .ok (.invokevirtual 81, 3) := by decide +kernel
theorem dL_law_784 : decode cL_law 784 = .ok (.aload_n 2, 1) := by decide +kernel
theorem dL_law_785 : decode cL_law 785 = .ok (.aload_n 0, 1) := by decide +kernel
theorem dL_law_786 : decode cL_law 786 = .ok (.iload_n 3, 1) := by decide +kernel
theorem dL_law_787 : decode cL_law 787 = .ok (.iconst 1, 1) := by decide +kernel
theorem dL_law_788 : decode cL_law 788 = .ok (.iadd, 1) := by decide +kernel
theorem dL_law_789 : decode cL_law 789 = .ok (.iaload, 1) := by decide +kernel
theorem dL_law_790 : decode cL_law 790 = .ok (.aload_n 0, 1) := by decide +kernel
theorem dL_law_791 : decode cL_law 791 = .ok (.iload_n 3, 1) := by decide +kernel
theorem dL_law_792 : decode cL_law 792 = .ok (.iconst 2, 1) := by decide +kernel
theorem dL_law_793 : decode cL_law 793 = .ok (.iadd, 1) := by decide +kernel
theorem dL_law_794 : decode cL_law 794 = .ok (.iaload, 1) := by decide +kernel
theorem dL_law_795 : decode cL_law 795 = .ok (.invokevirtual 84, 3) := by decide +kernel
theorem dL_law_798 : decode cL_law 798 = .ok (.if_icmp .eq 775, 3) := by decide +kernel
theorem dL_law_801 : decode cL_law 801 = .ok (.iconst 0, 1) := by decide +kernel
theorem dL_law_802 : decode cL_law 802 = .ok (.ireturn, 1) := by decide +kernel
theorem dL_law_803 : decode cL_law 803 = .ok (.aload_n 1, 1) := by decide +kernel
theorem dL_law_804 : decode cL_law 804 = .ok (.aload_n 0, 1) := by decide +kernel
theorem dL_law_805 : decode cL_law 805 = .ok (.iload_n 3, 1) := by decide +kernel
theorem dL_law_806 : decode cL_law 806 = .ok (.iconst 1, 1) := by decide +kernel
theorem dL_law_807 : decode cL_law 807 = .ok (.iadd, 1) := by decide +kernel
theorem dL_law_808 : decode cL_law 808 = .ok (.iaload, 1) := by decide +kernel
theorem dL_law_809 : decode cL_law 809 = .ok (.aload_n 0, 1) := by decide +kernel
theorem dL_law_810 : decode cL_law 810 = .ok (.iload_n 3, 1) := by decide +kernel
theorem dL_law_811 : decode cL_law 811 = .ok (.iconst 2, 1) := by decide +kernel
theorem dL_law_812 : decode cL_law 812 = .ok (.iadd, 1) := by decide +kernel
theorem dL_law_813 : decode cL_law 813 = .ok (.iaload, 1) := by decide +kernel
theorem dL_law_814 : decode cL_law 814 = .ok (.invokevirtual 85, 3) := by decide +kernel
theorem dL_law_817 : decode cL_law 817 = .ok (.aload_n 2, 1) := by decide +kernel
theorem dL_law_818 : decode cL_law 818 = .ok (.aload_n 0, 1) := by decide +kernel
theorem dL_law_819 : decode cL_law 819 = .ok (.iload_n 3, 1) := by decide +kernel
theorem dL_law_820 : decode cL_law 820 = .ok (.iconst 1, 1) := by decide +kernel
theorem dL_law_821 : decode cL_law 821 = .ok (.iadd, 1) := by decide +kernel
theorem dL_law_822 : decode cL_law 822 = .ok (.iaload, 1) := by decide +kernel
theorem dL_law_823 : decode cL_law 823 = .ok (.aload_n 0, 1) := by decide +kernel
theorem dL_law_824 : decode cL_law 824 = .ok (.iload_n 3, 1) := by decide +kernel
theorem dL_law_825 : decode cL_law 825 = .ok (.iconst 2, 1) := by decide +kernel
theorem dL_law_826 : decode cL_law 826 = .ok (.iadd, 1) := by decide +kernel
theorem dL_law_827 : decode cL_law 827 = .ok (.iaload, 1) := by decide +kernel
theorem dL_law_828 : decode cL_law 828 = .ok (.invokevirtual 88, 3) := by decide +kernel
theorem dL_law_831 : decode cL_law 831 = .ok (.if_icmp .eq 742, 3) := by decide +kernel
theorem dL_law_834 : decode cL_law 834 = .ok (.iconst 0, 1) := by decide +kernel
theorem dL_law_835 : decode cL_law 835 = .ok (.ireturn, 1) := by decide +kernel
theorem dL_law_836 : decode cL_law 836 = .ok (.aload_n 1, 1) := by decide +kernel
theorem dL_law_837 : decode cL_law 837 = .ok (.aload_n 0, 1) := by decide +kernel
theorem dL_law_838 : decode cL_law 838 = .ok (.iload_n 3, 1) := by decide +kernel
theorem dL_law_839 : decode cL_law 839 = .ok (.iconst 1, 1) := by decide +kernel
theorem dL_law_840 : decode cL_law 840 = .ok (.iadd, 1) := by decide +kernel
theorem dL_law_841 : decode cL_law 841 = .ok (.iaload, 1) := by decide +kernel
theorem dL_law_842 : decode cL_law 842 = .ok (.aload_n 0, 1) := by decide +kernel
theorem dL_law_843 : decode cL_law 843 = .ok (.iload_n 3, 1) := by decide +kernel
theorem dL_law_844 : decode cL_law 844 = .ok (.iconst 2, 1) := by decide +kernel
theorem dL_law_845 : decode cL_law 845 = .ok (.iadd, 1) := by decide +kernel
theorem dL_law_846 : decode cL_law 846 = .ok (.iaload, 1) := by decide +kernel
theorem dL_law_847 : decode cL_law 847 = .ok (.invokevirtual 89, 3) := by decide +kernel
theorem dL_law_850 : decode cL_law 850 = .ok (.aload_n 2, 1) := by decide +kernel
theorem dL_law_851 : decode cL_law 851 = .ok (.aload_n 0, 1) := by decide +kernel
theorem dL_law_852 : decode cL_law 852 = .ok (.iload_n 3, 1) := by decide +kernel
theorem dL_law_853 : decode cL_law 853 = .ok (.iconst 1, 1) := by decide +kernel
theorem dL_law_854 : decode cL_law 854 = .ok (.iadd, 1) := by decide +kernel
theorem dL_law_855 : decode cL_law 855 = .ok (.iaload, 1) := by decide +kernel
theorem dL_law_856 : decode cL_law 856 = .ok (.aload_n 0, 1) := by decide +kernel
theorem dL_law_857 : decode cL_law 857 = .ok (.iload_n 3, 1) := by decide +kernel
theorem dL_law_858 : decode cL_law 858 = .ok (.iconst 2, 1) := by decide +kernel
theorem dL_law_859 : decode cL_law 859 = .ok (.iadd, 1) := by decide +kernel
theorem dL_law_860 : decode cL_law 860 = .ok (.iaload, 1) := by decide +kernel
theorem dL_law_861 : decode cL_law 861 = .ok (.invokevirtual 92, 3) := by decide +kernel
theorem dL_law_864 : decode cL_law 864 = .ok (.if_icmp .eq 709, 3) := by decide +kernel
theorem dL_law_867 : decode cL_law 867 = .ok (.iconst 0, 1) := by decide +kernel
theorem dL_law_868 : decode cL_law 868 = .ok (.ireturn, 1) := by decide +kernel
theorem dL_law_869 : decode cL_law 869 = .ok (.aload_n 1, 1) := by decide +kernel
theorem dL_law_870 : decode cL_law 870 = .ok (.aload_n 0, 1) := by decide +kernel
theorem dL_law_871 : decode cL_law 871 = .ok (.iload_n 3, 1) := by decide +kernel
theorem dL_law_872 : decode cL_law 872 = .ok (.iconst 1, 1) := by decide +kernel
theorem dL_law_873 : decode cL_law 873 = .ok (.iadd, 1) := by decide +kernel
theorem dL_law_874 : decode cL_law 874 = .ok (.iaload, 1) := by decide +kernel
theorem dL_law_875 : decode cL_law 875 = .ok (.invokevirtual 93, 3) := by decide +kernel
theorem dL_law_878 : decode cL_law 878 = .ok (.aload_n 2, 1) := by decide +kernel
theorem dL_law_879 : decode cL_law 879 = .ok (.aload_n 0, 1) := by decide +kernel
theorem dL_law_880 : decode cL_law 880 = .ok (.iload_n 3, 1) := by decide +kernel
theorem dL_law_881 : decode cL_law 881 = .ok (.iconst 1, 1) := by decide +kernel
theorem dL_law_882 : decode cL_law 882 = .ok (.iadd, 1) := by decide +kernel
theorem dL_law_883 : decode cL_law 883 = .ok (.iaload, 1) := by decide +kernel
theorem dL_law_884 : decode cL_law 884 = .ok (.invokevirtual 96, 3) := by decide +kernel
theorem dL_law_887 : decode cL_law 887 = .ok (.if_icmp .eq 686, 3) := by decide +kernel
theorem dL_law_890 : decode cL_law 890 = .ok (.iconst 0, 1) := by decide +kernel
theorem dL_law_891 : decode cL_law 891 = .ok (.ireturn, 1) := by decide +kernel
theorem dL_law_892 : decode cL_law 892 = .ok (.aload_n 1, 1) := by decide +kernel
theorem dL_law_893 : decode cL_law 893 = .ok (.aload_n 0, 1) := by decide +kernel
theorem dL_law_894 : decode cL_law 894 = .ok (.iload_n 3, 1) := by decide +kernel
theorem dL_law_895 : decode cL_law 895 = .ok (.iconst 1, 1) := by decide +kernel
theorem dL_law_896 : decode cL_law 896 = .ok (.iadd, 1) := by decide +kernel
theorem dL_law_897 : decode cL_law 897 = .ok (.iaload, 1) := by decide +kernel
theorem dL_law_898 : decode cL_law 898 = .ok (.invokevirtual 97, 3) := by decide +kernel
theorem dL_law_901 : decode cL_law 901 = .ok (.aload_n 2, 1) := by decide +kernel
theorem dL_law_902 : decode cL_law 902 = .ok (.aload_n 0, 1) := by decide +kernel
theorem dL_law_903 : decode cL_law 903 = .ok (.iload_n 3, 1) := by decide +kernel
theorem dL_law_904 : decode cL_law 904 = .ok (.iconst 1, 1) := by decide +kernel
theorem dL_law_905 : decode cL_law 905 = .ok (.iadd, 1) := by decide +kernel
theorem dL_law_906 : decode cL_law 906 = .ok (.iaload, 1) := by decide +kernel
theorem dL_law_907 : decode cL_law 907 = .ok (.invokevirtual 100, 3) := by decide +kernel
theorem dL_law_910 : decode cL_law 910 = .ok (.if_icmp .eq 663, 3) := by decide +kernel
theorem dL_law_913 : decode cL_law 913 = .ok (.iconst 0, 1) := by decide +kernel
theorem dL_law_914 : decode cL_law 914 = .ok (.ireturn, 1) := by decide +kernel
theorem dL_law_915 : decode cL_law 915 = .ok (.aload_n 1, 1) := by decide +kernel
theorem dL_law_916 : decode cL_law 916 = .ok (.aload_n 0, 1) := by decide +kernel
theorem dL_law_917 : decode cL_law 917 = .ok (.iload_n 3, 1) := by decide +kernel
theorem dL_law_918 : decode cL_law 918 = .ok (.iconst 1, 1) := by decide +kernel
theorem dL_law_919 : decode cL_law 919 = .ok (.iadd, 1) := by decide +kernel
theorem dL_law_920 : decode cL_law 920 = .ok (.iaload, 1) := by decide +kernel
theorem dL_law_921 : decode cL_law 921 = .ok (.aload_n 0, 1) := by decide +kernel
theorem dL_law_922 : decode cL_law 922 = .ok (.iload_n 3, 1) := by decide +kernel
theorem dL_law_923 : decode cL_law 923 = .ok (.iconst 2, 1) := by decide +kernel
theorem dL_law_924 : decode cL_law 924 = .ok (.iadd, 1) := by decide +kernel
theorem dL_law_925 : decode cL_law 925 = .ok (.iaload, 1) := by decide +kernel
theorem dL_law_926 : decode cL_law 926 = .ok (.aload_n 0, 1) := by decide +kernel
theorem dL_law_927 : decode cL_law 927 = .ok (.iload_n 3, 1) := by decide +kernel
theorem dL_law_928 : decode cL_law 928 = .ok (.iconst 3, 1) := by decide +kernel
theorem dL_law_929 : decode cL_law 929 = .ok (.iadd, 1) := by decide +kernel
theorem dL_law_930 : decode cL_law 930 = .ok (.iaload, 1) := by decide +kernel
theorem dL_law_931 : decode cL_law 931 = .ok (.aload_n 0, 1) := by decide +kernel
theorem dL_law_932 : decode cL_law 932 = .ok (.iload_n 3, 1) := by decide +kernel
theorem dL_law_933 : decode cL_law 933 = .ok (.iconst 4, 1) := by decide +kernel
theorem dL_law_934 : decode cL_law 934 = .ok (.iadd, 1) := by decide +kernel
theorem dL_law_935 : decode cL_law 935 = .ok (.iaload, 1) := by decide +kernel
theorem dL_law_936 : decode cL_law 936 = .ok (.invokevirtual 101, 3) := by decide +kernel
theorem dL_law_939 : decode cL_law 939 = .ok (.aload_n 2, 1) := by decide +kernel
theorem dL_law_940 : decode cL_law 940 = .ok (.aload_n 0, 1) := by decide +kernel
theorem dL_law_941 : decode cL_law 941 = .ok (.iload_n 3, 1) := by decide +kernel
theorem dL_law_942 : decode cL_law 942 = .ok (.iconst 1, 1) := by decide +kernel
theorem dL_law_943 : decode cL_law 943 = .ok (.iadd, 1) := by decide +kernel
theorem dL_law_944 : decode cL_law 944 = .ok (.iaload, 1) := by decide +kernel
theorem dL_law_945 : decode cL_law 945 = .ok (.aload_n 0, 1) := by decide +kernel
theorem dL_law_946 : decode cL_law 946 = .ok (.iload_n 3, 1) := by decide +kernel
theorem dL_law_947 : decode cL_law 947 = .ok (.iconst 2, 1) := by decide +kernel
theorem dL_law_948 : decode cL_law 948 = .ok (.iadd, 1) := by decide +kernel
theorem dL_law_949 : decode cL_law 949 = .ok (.iaload, 1) := by decide +kernel
theorem dL_law_950 : decode cL_law 950 = .ok (.aload_n 0, 1) := by decide +kernel
theorem dL_law_951 : decode cL_law 951 = .ok (.iload_n 3, 1) := by decide +kernel
theorem dL_law_952 : decode cL_law 952 = .ok (.iconst 3, 1) := by decide +kernel
theorem dL_law_953 : decode cL_law 953 = .ok (.iadd, 1) := by decide +kernel
theorem dL_law_954 : decode cL_law 954 = .ok (.iaload, 1) := by decide +kernel
theorem dL_law_955 : decode cL_law 955 = .ok (.aload_n 0, 1) := by decide +kernel
theorem dL_law_956 : decode cL_law 956 = .ok (.iload_n 3, 1) := by decide +kernel
theorem dL_law_957 : decode cL_law 957 = .ok (.iconst 4, 1) := by decide +kernel
theorem dL_law_958 : decode cL_law 958 = .ok (.iadd, 1) := by decide +kernel
theorem dL_law_959 : decode cL_law 959 = .ok (.iaload, 1) := by decide +kernel
theorem dL_law_960 : decode cL_law 960 = .ok (.invokevirtual 105, 3) := by decide +kernel
theorem dL_law_963 : decode cL_law 963 = .ok (.if_icmp .eq 610, 3) := by decide +kernel
theorem dL_law_966 : decode cL_law 966 = .ok (.iconst 0, 1) := by decide +kernel
theorem dL_law_967 : decode cL_law 967 = .ok (.ireturn, 1) := by decide +kernel
theorem dL_law_968 : decode cL_law 968 = .ok (.aload_n 1, 1) := by decide +kernel
theorem dL_law_969 : decode cL_law 969 = .ok (.aload_n 0, 1) := by decide +kernel
theorem dL_law_970 : decode cL_law 970 = .ok (.iload_n 3, 1) := by decide +kernel
theorem dL_law_971 : decode cL_law 971 = .ok (.iconst 1, 1) := by decide +kernel
theorem dL_law_972 : decode cL_law 972 = .ok (.iadd, 1) := by decide +kernel
theorem dL_law_973 : decode cL_law 973 = .ok (.iaload, 1) := by decide +kernel
theorem dL_law_974 : decode cL_law 974 = .ok (.aload_n 0, 1) := by decide +kernel
theorem dL_law_975 : decode cL_law 975 = .ok (.iload_n 3, 1) := by decide +kernel
theorem dL_law_976 : decode cL_law 976 = .ok (.iconst 2, 1) := by decide +kernel
theorem dL_law_977 : decode cL_law 977 = .ok (.iadd, 1) := by decide +kernel
theorem dL_law_978 : decode cL_law 978 = .ok (.iaload, 1) := by decide +kernel
theorem dL_law_979 : decode cL_law 979 = .ok (.invokevirtual 106, 3) := by decide +kernel
theorem dL_law_982 : decode cL_law 982 = .ok (.aload_n 2, 1) := by decide +kernel
theorem dL_law_983 : decode cL_law 983 = .ok (.aload_n 0, 1) := by decide +kernel
theorem dL_law_984 : decode cL_law 984 = .ok (.iload_n 3, 1) := by decide +kernel
theorem dL_law_985 : decode cL_law 985 = .ok (.iconst 1, 1) := by decide +kernel
theorem dL_law_986 : decode cL_law 986 = .ok (.iadd, 1) := by decide +kernel
theorem dL_law_987 : decode cL_law 987 = .ok (.iaload, 1) := by decide +kernel
theorem dL_law_988 : decode cL_law 988 = .ok (.aload_n 0, 1) := by decide +kernel
theorem dL_law_989 : decode cL_law 989 = .ok (.iload_n 3, 1) := by decide +kernel
theorem dL_law_990 : decode cL_law 990 = .ok (.iconst 2, 1) := by decide +kernel
theorem dL_law_991 : decode cL_law 991 = .ok (.iadd, 1) := by decide +kernel
theorem dL_law_992 : decode cL_law 992 = .ok (.iaload, 1) := by decide +kernel
theorem dL_law_993 : decode cL_law 993 = .ok (.invokevirtual 109, 3) := by decide +kernel
theorem dL_law_996 : decode cL_law 996 = .ok (.if_icmp .eq 577, 3) := by decide +kernel
theorem dL_law_999 : decode cL_law 999 = .ok (.iconst 0, 1) := by decide +kernel
theorem dL_law_1000 : decode cL_law 1000 = .ok (.ireturn, 1) := by decide +kernel
theorem dL_law_1001 : decode cL_law 1001 = .ok (.aload_n 1, 1) := by decide +kernel
theorem dL_law_1002 : decode cL_law 1002 = .ok (.invokevirtual 110, 3) := by decide +kernel
theorem dL_law_1005 : decode cL_law 1005 = .ok (.aload_n 2, 1) := by decide +kernel
theorem dL_law_1006 : decode cL_law 1006 = .ok (.invokevirtual 114, 3) := by decide +kernel
theorem dL_law_1009 : decode cL_law 1009 = .ok (.if_icmp .eq 564, 3) := by decide +kernel
theorem dL_law_1012 : decode cL_law 1012 = .ok (.iconst 0, 1) := by decide +kernel
theorem dL_law_1013 : decode cL_law 1013 = .ok (.ireturn, 1) := by decide +kernel
theorem dL_law_1014 : decode cL_law 1014 = .ok (.aload_n 1, 1) := by decide +kernel
theorem dL_law_1015 : decode cL_law 1015 = .ok (.aload_n 0, 1) := by decide +kernel
theorem dL_law_1016 : decode cL_law 1016 = .ok (.iload_n 3, 1) := by decide +kernel
theorem dL_law_1017 : decode cL_law 1017 = .ok (.iconst 1, 1) := by decide +kernel
theorem dL_law_1018 : decode cL_law 1018 = .ok (.iadd, 1) := by decide +kernel
theorem dL_law_1019 : decode cL_law 1019 = .ok (.iaload, 1) := by decide +kernel
theorem dL_law_1020 : decode cL_law 1020 = .ok (.aload_n 0, 1) := by decide +kernel
theorem dL_law_1021 : decode cL_law 1021 = .ok (.iload_n 3, 1) := by decide +kernel
theorem dL_law_1022 : decode cL_law 1022 = .ok (.iconst 2, 1) := by decide +kernel
theorem dL_law_1023 : decode cL_law 1023 = .ok (.iadd, 1) := by decide +kernel
theorem dL_law_1024 : decode cL_law 1024 = .ok (.iaload, 1) := by decide +kernel
theorem dL_law_1025 : decode cL_law 1025 = .ok (.aload_n 0, 1) := by decide +kernel
theorem dL_law_1026 : decode cL_law 1026 = .ok (.iload_n 3, 1) := by decide +kernel
theorem dL_law_1027 : decode cL_law 1027 = .ok (.iconst 3, 1) := by decide +kernel
theorem dL_law_1028 : decode cL_law 1028 = .ok (.iadd, 1) := by decide +kernel
theorem dL_law_1029 : decode cL_law 1029 = .ok (.iaload, 1) := by decide +kernel
theorem dL_law_1030 : decode cL_law 1030 = .ok (.invokevirtual 115, 3) := by decide +kernel
theorem dL_law_1033 : decode cL_law 1033 = .ok (.aload_n 2, 1) := by decide +kernel
theorem dL_law_1034 : decode cL_law 1034 = .ok (.aload_n 0, 1) := by decide +kernel
theorem dL_law_1035 : decode cL_law 1035 = .ok (.iload_n 3, 1) := by decide +kernel
theorem dL_law_1036 : decode cL_law 1036 = .ok (.iconst 1, 1) := by decide +kernel
theorem dL_law_1037 : decode cL_law 1037 = .ok (.iadd, 1) := by decide +kernel
theorem dL_law_1038 : decode cL_law 1038 = .ok (.iaload, 1) := by decide +kernel
theorem dL_law_1039 : decode cL_law 1039 = .ok (.aload_n 0, 1) := by decide +kernel
theorem dL_law_1040 : decode cL_law 1040 = .ok (.iload_n 3, 1) := by decide +kernel
theorem dL_law_1041 : decode cL_law 1041 = .ok (.iconst 2, 1) := by decide +kernel
theorem dL_law_1042 : decode cL_law 1042 = .ok (.iadd, 1) := by decide +kernel
theorem dL_law_1043 : decode cL_law 1043 = .ok (.iaload, 1) := by decide +kernel
theorem dL_law_1044 : decode cL_law 1044 = .ok (.aload_n 0, 1) := by decide +kernel
theorem dL_law_1045 : decode cL_law 1045 = .ok (.iload_n 3, 1) := by decide +kernel
theorem dL_law_1046 : decode cL_law 1046 = .ok (.iconst 3, 1) := by decide +kernel
theorem dL_law_1047 : decode cL_law 1047 = .ok (.iadd, 1) := by decide +kernel
theorem dL_law_1048 : decode cL_law 1048 = .ok (.iaload, 1) := by decide +kernel
theorem dL_law_1049 : decode cL_law 1049 = .ok (.invokevirtual 118, 3) := by decide +kernel
theorem dL_law_1052 : decode cL_law 1052 = .ok (.if_icmp .eq 521, 3) := by decide +kernel
theorem dL_law_1055 : decode cL_law 1055 = .ok (.iconst 0, 1) := by decide +kernel
theorem dL_law_1056 : decode cL_law 1056 = .ok (.ireturn, 1) := by decide +kernel
theorem dL_law_1057 : decode cL_law 1057 = .ok (.aload_n 1, 1) := by decide +kernel
theorem dL_law_1058 : decode cL_law 1058 = .ok (.aload_n 0, 1) := by decide +kernel
theorem dL_law_1059 : decode cL_law 1059 = .ok (.iload_n 3, 1) := by decide +kernel
theorem dL_law_1060 : decode cL_law 1060 = .ok (.iconst 1, 1) := by decide +kernel
theorem dL_law_1061 : decode cL_law 1061 = .ok (.iadd, 1) := by decide +kernel
theorem dL_law_1062 : decode cL_law 1062 = .ok (.iaload, 1) := by decide +kernel
theorem dL_law_1063 : decode cL_law 1063 = .ok (.aload_n 0, 1) := by decide +kernel
theorem dL_law_1064 : decode cL_law 1064 = .ok (.iload_n 3, 1) := by decide +kernel
theorem dL_law_1065 : decode cL_law 1065 = .ok (.iconst 2, 1) := by decide +kernel
theorem dL_law_1066 : decode cL_law 1066 = .ok (.iadd, 1) := by decide +kernel
theorem dL_law_1067 : decode cL_law 1067 = .ok (.iaload, 1) := by decide +kernel
theorem dL_law_1068 : decode cL_law 1068 = .ok (.aload_n 0, 1) := by decide +kernel
theorem dL_law_1069 : decode cL_law 1069 = .ok (.iload_n 3, 1) := by decide +kernel
theorem dL_law_1070 : decode cL_law 1070 = .ok (.iconst 3, 1) := by decide +kernel
theorem dL_law_1071 : decode cL_law 1071 = .ok (.iadd, 1) := by decide +kernel
theorem dL_law_1072 : decode cL_law 1072 = .ok (.iaload, 1) := by decide +kernel
theorem dL_law_1073 : decode cL_law 1073 = .ok (.aload_n 0, 1) := by decide +kernel
theorem dL_law_1074 : decode cL_law 1074 = .ok (.iload_n 3, 1) := by decide +kernel
theorem dL_law_1075 : decode cL_law 1075 = .ok (.iconst 4, 1) := by decide +kernel
theorem dL_law_1076 : decode cL_law 1076 = .ok (.iadd, 1) := by decide +kernel
theorem dL_law_1077 : decode cL_law 1077 = .ok (.iaload, 1) := by decide +kernel
theorem dL_law_1078 : decode cL_law 1078 = .ok (.invokevirtual 119, 3) := by decide +kernel
theorem dL_law_1081 : decode cL_law 1081 = .ok (.aload_n 2, 1) := by decide +kernel
theorem dL_law_1082 : decode cL_law 1082 = .ok (.aload_n 0, 1) := by decide +kernel
theorem dL_law_1083 : decode cL_law 1083 = .ok (.iload_n 3, 1) := by decide +kernel
theorem dL_law_1084 : decode cL_law 1084 = .ok (.iconst 1, 1) := by decide +kernel
theorem dL_law_1085 : decode cL_law 1085 = .ok (.iadd, 1) := by decide +kernel
theorem dL_law_1086 : decode cL_law 1086 = .ok (.iaload, 1) := by decide +kernel
theorem dL_law_1087 : decode cL_law 1087 = .ok (.aload_n 0, 1) := by decide +kernel
theorem dL_law_1088 : decode cL_law 1088 = .ok (.iload_n 3, 1) := by decide +kernel
theorem dL_law_1089 : decode cL_law 1089 = .ok (.iconst 2, 1) := by decide +kernel
theorem dL_law_1090 : decode cL_law 1090 = .ok (.iadd, 1) := by decide +kernel
theorem dL_law_1091 : decode cL_law 1091 = .ok (.iaload, 1) := by decide +kernel
theorem dL_law_1092 : decode cL_law 1092 = .ok (.aload_n 0, 1) := by decide +kernel
theorem dL_law_1093 : decode cL_law 1093 = .ok (.iload_n 3, 1) := by decide +kernel
theorem dL_law_1094 : decode cL_law 1094 = .ok (.iconst 3, 1) := by decide +kernel
theorem dL_law_1095 : decode cL_law 1095 = .ok (.iadd, 1) := by decide +kernel
theorem dL_law_1096 : decode cL_law 1096 = .ok (.iaload, 1) := by decide +kernel
theorem dL_law_1097 : decode cL_law 1097 = .ok (.aload_n 0, 1) := by decide +kernel
theorem dL_law_1098 : decode cL_law 1098 = .ok (.iload_n 3, 1) := by decide +kernel
theorem dL_law_1099 : decode cL_law 1099 = .ok (.iconst 4, 1) := by decide +kernel
theorem dL_law_1100 : decode cL_law 1100 = .ok (.iadd, 1) := by decide +kernel
theorem dL_law_1101 : decode cL_law 1101 = .ok (.iaload, 1) := by decide +kernel
theorem dL_law_1102 : decode cL_law 1102 = .ok (.invokevirtual 122, 3) := by decide +kernel
theorem dL_law_1105 : decode cL_law 1105 = .ok (.if_icmp .eq 468, 3) := by decide +kernel
theorem dL_law_1108 : decode cL_law 1108 = .ok (.iconst 0, 1) := by decide +kernel
theorem dL_law_1109 : decode cL_law 1109 = .ok (.ireturn, 1) := by decide +kernel
theorem dL_law_1110 : decode cL_law 1110 = .ok (.aload_n 1, 1) := by decide +kernel
theorem dL_law_1111 : decode cL_law 1111 = .ok (.aload_n 0, 1) := by decide +kernel
theorem dL_law_1112 : decode cL_law 1112 = .ok (.iload_n 3, 1) := by decide +kernel
theorem dL_law_1113 : decode cL_law 1113 = .ok (.iconst 1, 1) := by decide +kernel
theorem dL_law_1114 : decode cL_law 1114 = .ok (.iadd, 1) := by decide +kernel
theorem dL_law_1115 : decode cL_law 1115 = .ok (.iaload, 1) := by decide +kernel
theorem dL_law_1116 : decode cL_law 1116 = .ok (.aload_n 0, 1) := by decide +kernel
theorem dL_law_1117 : decode cL_law 1117 = .ok (.iload_n 3, 1) := by decide +kernel
theorem dL_law_1118 : decode cL_law 1118 = .ok (.iconst 2, 1) := by decide +kernel
theorem dL_law_1119 : decode cL_law 1119 = .ok (.iadd, 1) := by decide +kernel
theorem dL_law_1120 : decode cL_law 1120 = .ok (.iaload, 1) := by decide +kernel
theorem dL_law_1121 : decode cL_law 1121 = .ok (.invokevirtual 123, 3) := by decide +kernel
theorem dL_law_1124 : decode cL_law 1124 = .ok (.aload_n 2, 1) := by decide +kernel
theorem dL_law_1125 : decode cL_law 1125 = .ok (.aload_n 0, 1) := by decide +kernel
theorem dL_law_1126 : decode cL_law 1126 = .ok (.iload_n 3, 1) := by decide +kernel
theorem dL_law_1127 : decode cL_law 1127 = .ok (.iconst 1, 1) := by decide +kernel
theorem dL_law_1128 : decode cL_law 1128 = .ok (.iadd, 1) := by decide +kernel
theorem dL_law_1129 : decode cL_law 1129 = .ok (.iaload, 1) := by decide +kernel
theorem dL_law_1130 : decode cL_law 1130 = .ok (.aload_n 0, 1) := by decide +kernel
theorem dL_law_1131 : decode cL_law 1131 = .ok (.iload_n 3, 1) := by decide +kernel
theorem dL_law_1132 : decode cL_law 1132 = .ok (.iconst 2, 1) := by decide +kernel
theorem dL_law_1133 : decode cL_law 1133 = .ok (.iadd, 1) := by decide +kernel
theorem dL_law_1134 : decode cL_law 1134 = .ok (.iaload, 1) := by decide +kernel
theorem dL_law_1135 : decode cL_law 1135 = .ok (.invokevirtual 126, 3) := by decide +kernel
theorem dL_law_1138 : decode cL_law 1138 = .ok (.if_icmp .eq 435, 3) := by decide +kernel
theorem dL_law_1141 : decode cL_law 1141 = .ok (.iconst 0, 1) := by decide +kernel
theorem dL_law_1142 : decode cL_law 1142 = .ok (.ireturn, 1) := by decide +kernel
theorem dL_law_1143 : decode cL_law 1143 = .ok (.aload_n 1, 1) := by decide +kernel
theorem dL_law_1144 : decode cL_law 1144 = .ok (.aload_n 0, 1) := by decide +kernel
theorem dL_law_1145 : decode cL_law 1145 = .ok (.iload_n 3, 1) := by decide +kernel
theorem dL_law_1146 : decode cL_law 1146 = .ok (.iconst 1, 1) := by decide +kernel
theorem dL_law_1147 : decode cL_law 1147 = .ok (.iadd, 1) := by decide +kernel
theorem dL_law_1148 : decode cL_law 1148 = .ok (.iaload, 1) := by decide +kernel
theorem dL_law_1149 : decode cL_law 1149 = .ok (.aload_n 0, 1) := by decide +kernel
theorem dL_law_1150 : decode cL_law 1150 = .ok (.iload_n 3, 1) := by decide +kernel
theorem dL_law_1151 : decode cL_law 1151 = .ok (.iconst 2, 1) := by decide +kernel
theorem dL_law_1152 : decode cL_law 1152 = .ok (.iadd, 1) := by decide +kernel
theorem dL_law_1153 : decode cL_law 1153 = .ok (.iaload, 1) := by decide +kernel
theorem dL_law_1154 : decode cL_law 1154 = .ok (.invokevirtual 127, 3) := by decide +kernel
theorem dL_law_1157 : decode cL_law 1157 = .ok (.aload_n 2, 1) := by decide +kernel
theorem dL_law_1158 : decode cL_law 1158 = .ok (.aload_n 0, 1) := by decide +kernel
theorem dL_law_1159 : decode cL_law 1159 = .ok (.iload_n 3, 1) := by decide +kernel
theorem dL_law_1160 : decode cL_law 1160 = .ok (.iconst 1, 1) := by decide +kernel
theorem dL_law_1161 : decode cL_law 1161 = .ok (.iadd, 1) := by decide +kernel
theorem dL_law_1162 : decode cL_law 1162 = .ok (.iaload, 1) := by decide +kernel
theorem dL_law_1163 : decode cL_law 1163 = .ok (.aload_n 0, 1) := by decide +kernel
theorem dL_law_1164 : decode cL_law 1164 = .ok (.iload_n 3, 1) := by decide +kernel
theorem dL_law_1165 : decode cL_law 1165 = .ok (.iconst 2, 1) := by decide +kernel
theorem dL_law_1166 : decode cL_law 1166 = .ok (.iadd, 1) := by decide +kernel
theorem dL_law_1167 : decode cL_law 1167 = .ok (.iaload, 1) := by decide +kernel
theorem dL_law_1168 : decode cL_law 1168 = .ok (.invokevirtual 130, 3) := by decide +kernel
theorem dL_law_1171 : decode cL_law 1171 = .ok (.if_icmp .eq 402, 3) := by decide +kernel
theorem dL_law_1174 : decode cL_law 1174 = .ok (.iconst 0, 1) := by decide +kernel
theorem dL_law_1175 : decode cL_law 1175 = .ok (.ireturn, 1) := by decide +kernel
theorem dL_law_1176 : decode cL_law 1176 = .ok (.aload_n 1, 1) := by decide +kernel
theorem dL_law_1177 : decode cL_law 1177 = .ok (.aload_n 0, 1) := by decide +kernel
theorem dL_law_1178 : decode cL_law 1178 = .ok (.iload_n 3, 1) := by decide +kernel
theorem dL_law_1179 : decode cL_law 1179 = .ok (.iconst 1, 1) := by decide +kernel
theorem dL_law_1180 : decode cL_law 1180 = .ok (.iadd, 1) := by decide +kernel
theorem dL_law_1181 : decode cL_law 1181 = .ok (.iaload, 1) := by decide +kernel
theorem dL_law_1182 : decode cL_law 1182 = .ok (.aload_n 0, 1) := by decide +kernel
theorem dL_law_1183 : decode cL_law 1183 = .ok (.iload_n 3, 1) := by decide +kernel
theorem dL_law_1184 : decode cL_law 1184 = .ok (.iconst 2, 1) := by decide +kernel
theorem dL_law_1185 : decode cL_law 1185 = .ok (.iadd, 1) := by decide +kernel
theorem dL_law_1186 : decode cL_law 1186 = .ok (.iaload, 1) := by decide +kernel
theorem dL_law_1187 : decode cL_law 1187 = .ok (.invokevirtual 131, 3) := by decide +kernel
theorem dL_law_1190 : decode cL_law 1190 = .ok (.aload_n 2, 1) := by decide +kernel
theorem dL_law_1191 : decode cL_law 1191 = .ok (.aload_n 0, 1) := by decide +kernel
theorem dL_law_1192 : decode cL_law 1192 = .ok (.iload_n 3, 1) := by decide +kernel
theorem dL_law_1193 : decode cL_law 1193 = .ok (.iconst 1, 1) := by decide +kernel
theorem dL_law_1194 : decode cL_law 1194 = .ok (.iadd, 1) := by decide +kernel
theorem dL_law_1195 : decode cL_law 1195 = .ok (.iaload, 1) := by decide +kernel
theorem dL_law_1196 : decode cL_law 1196 = .ok (.aload_n 0, 1) := by decide +kernel
theorem dL_law_1197 : decode cL_law 1197 = .ok (.iload_n 3, 1) := by decide +kernel
theorem dL_law_1198 : decode cL_law 1198 = .ok (.iconst 2, 1) := by decide +kernel
theorem dL_law_1199 : decode cL_law 1199 = .ok (.iadd, 1) := by decide +kernel
theorem dL_law_1200 : decode cL_law 1200 = .ok (.iaload, 1) := by decide +kernel
theorem dL_law_1201 : decode cL_law 1201 = .ok (.invokevirtual 134, 3) := by decide +kernel
theorem dL_law_1204 : decode cL_law 1204 = .ok (.if_icmp .eq 369, 3) := by decide +kernel
theorem dL_law_1207 : decode cL_law 1207 = .ok (.iconst 0, 1) := by decide +kernel
theorem dL_law_1208 : decode cL_law 1208 = .ok (.ireturn, 1) := by decide +kernel
theorem dL_law_1209 : decode cL_law 1209 = .ok (.aload_n 1, 1) := by decide +kernel
theorem dL_law_1210 : decode cL_law 1210 = .ok (.aload_n 0, 1) := by decide +kernel
theorem dL_law_1211 : decode cL_law 1211 = .ok (.iload_n 3, 1) := by decide +kernel
theorem dL_law_1212 : decode cL_law 1212 = .ok (.iconst 1, 1) := by decide +kernel
theorem dL_law_1213 : decode cL_law 1213 = .ok (.iadd, 1) := by decide +kernel
theorem dL_law_1214 : decode cL_law 1214 = .ok (.iaload, 1) := by decide +kernel
theorem dL_law_1215 : decode cL_law 1215 = .ok (.aload_n 0, 1) := by decide +kernel
theorem dL_law_1216 : decode cL_law 1216 = .ok (.iload_n 3, 1) := by decide +kernel
theorem dL_law_1217 : decode cL_law 1217 = .ok (.iconst 2, 1) := by decide +kernel
theorem dL_law_1218 : decode cL_law 1218 = .ok (.iadd, 1) := by decide +kernel
theorem dL_law_1219 : decode cL_law 1219 = .ok (.iaload, 1) := by decide +kernel
theorem dL_law_1220 : decode cL_law 1220 = .ok (.invokevirtual 135, 3) := by decide +kernel
theorem dL_law_1223 : decode cL_law 1223 = .ok (.aload_n 2, 1) := by decide +kernel
theorem dL_law_1224 : decode cL_law 1224 = .ok (.aload_n 0, 1) := by decide +kernel
theorem dL_law_1225 : decode cL_law 1225 = .ok (.iload_n 3, 1) := by decide +kernel
theorem dL_law_1226 : decode cL_law 1226 = .ok (.iconst 1, 1) := by decide +kernel
theorem dL_law_1227 : decode cL_law 1227 = .ok (.iadd, 1) := by decide +kernel
theorem dL_law_1228 : decode cL_law 1228 = .ok (.iaload, 1) := by decide +kernel
theorem dL_law_1229 : decode cL_law 1229 = .ok (.aload_n 0, 1) := by decide +kernel
theorem dL_law_1230 : decode cL_law 1230 = .ok (.iload_n 3, 1) := by decide +kernel
theorem dL_law_1231 : decode cL_law 1231 = .ok (.iconst 2, 1) := by decide +kernel
theorem dL_law_1232 : decode cL_law 1232 = .ok (.iadd, 1) := by decide +kernel
theorem dL_law_1233 : decode cL_law 1233 = .ok (.iaload, 1) := by decide +kernel
theorem dL_law_1234 : decode cL_law 1234 = .ok (.invokevirtual 138, 3) := by decide +kernel
theorem dL_law_1237 : decode cL_law 1237 = .ok (.if_icmp .eq 336, 3) := by decide +kernel
theorem dL_law_1240 : decode cL_law 1240 = .ok (.iconst 0, 1) := by decide +kernel
theorem dL_law_1241 : decode cL_law 1241 = .ok (.ireturn, 1) := by decide +kernel
theorem dL_law_1242 : decode cL_law 1242 = .ok (.aload_n 1, 1) := by decide +kernel
theorem dL_law_1243 : decode cL_law 1243 = .ok (.aload_n 0, 1) := by decide +kernel
theorem dL_law_1244 : decode cL_law 1244 = .ok (.iload_n 3, 1) := by decide +kernel
theorem dL_law_1245 : decode cL_law 1245 = .ok (.iconst 1, 1) := by decide +kernel
theorem dL_law_1246 : decode cL_law 1246 = .ok (.iadd, 1) := by decide +kernel
theorem dL_law_1247 : decode cL_law 1247 = .ok (.iaload, 1) := by decide +kernel
theorem dL_law_1248 : decode cL_law 1248 = .ok (.invokevirtual 139, 3) := by decide +kernel
theorem dL_law_1251 : decode cL_law 1251 = .ok (.aload_n 2, 1) := by decide +kernel
theorem dL_law_1252 : decode cL_law 1252 = .ok (.aload_n 0, 1) := by decide +kernel
theorem dL_law_1253 : decode cL_law 1253 = .ok (.iload_n 3, 1) := by decide +kernel
theorem dL_law_1254 : decode cL_law 1254 = .ok (.iconst 1, 1) := by decide +kernel
theorem dL_law_1255 : decode cL_law 1255 = .ok (.iadd, 1) := by decide +kernel
theorem dL_law_1256 : decode cL_law 1256 = .ok (.iaload, 1) := by decide +kernel
theorem dL_law_1257 : decode cL_law 1257 = .ok (.invokevirtual 142, 3) := by decide +kernel
theorem dL_law_1260 : decode cL_law 1260 = .ok (.if_icmp .eq 313, 3) := by decide +kernel
theorem dL_law_1263 : decode cL_law 1263 = .ok (.iconst 0, 1) := by decide +kernel
theorem dL_law_1264 : decode cL_law 1264 = .ok (.ireturn, 1) := by decide +kernel
theorem dL_law_1265 : decode cL_law 1265 = .ok (.aload_n 1, 1) := by decide +kernel
theorem dL_law_1266 : decode cL_law 1266 = .ok (.aload_n 0, 1) := by decide +kernel
theorem dL_law_1267 : decode cL_law 1267 = .ok (.iload_n 3, 1) := by decide +kernel
theorem dL_law_1268 : decode cL_law 1268 = .ok (.iconst 1, 1) := by decide +kernel
theorem dL_law_1269 : decode cL_law 1269 = .ok (.iadd, 1) := by decide +kernel
theorem dL_law_1270 : decode cL_law 1270 = .ok (.iaload, 1) := by decide +kernel
theorem dL_law_1271 : decode cL_law 1271 = .ok (.aload_n 0, 1) := by decide +kernel
theorem dL_law_1272 : decode cL_law 1272 = .ok (.iload_n 3, 1) := by decide +kernel
theorem dL_law_1273 : decode cL_law 1273 = .ok (.iconst 2, 1) := by decide +kernel
theorem dL_law_1274 : decode cL_law 1274 = .ok (.iadd, 1) := by decide +kernel
theorem dL_law_1275 : decode cL_law 1275 = .ok (.iaload, 1) := by decide +kernel
theorem dL_law_1276 : decode cL_law 1276 = .ok (.invokevirtual 143, 3) := by decide +kernel
theorem dL_law_1279 : decode cL_law 1279 = .ok (.aload_n 2, 1) := by decide +kernel
theorem dL_law_1280 : decode cL_law 1280 = .ok (.aload_n 0, 1) := by decide +kernel
theorem dL_law_1281 : decode cL_law 1281 = .ok (.iload_n 3, 1) := by decide +kernel
theorem dL_law_1282 : decode cL_law 1282 = .ok (.iconst 1, 1) := by decide +kernel
theorem dL_law_1283 : decode cL_law 1283 = .ok (.iadd, 1) := by decide +kernel
theorem dL_law_1284 : decode cL_law 1284 = .ok (.iaload, 1) := by decide +kernel
theorem dL_law_1285 : decode cL_law 1285 = .ok (.aload_n 0, 1) := by decide +kernel
theorem dL_law_1286 : decode cL_law 1286 = .ok (.iload_n 3, 1) := by decide +kernel
theorem dL_law_1287 : decode cL_law 1287 = .ok (.iconst 2, 1) := by decide +kernel
theorem dL_law_1288 : decode cL_law 1288 = .ok (.iadd, 1) := by decide +kernel
theorem dL_law_1289 : decode cL_law 1289 = .ok (.iaload, 1) := by decide +kernel
theorem dL_law_1290 : decode cL_law 1290 = .ok (.invokevirtual 146, 3) := by decide +kernel
theorem dL_law_1293 : decode cL_law 1293 = .ok (.if_icmp .eq 280, 3) := by decide +kernel
theorem dL_law_1296 : decode cL_law 1296 = .ok (.iconst 0, 1) := by decide +kernel
theorem dL_law_1297 : decode cL_law 1297 = .ok (.ireturn, 1) := by decide +kernel
theorem dL_law_1298 : decode cL_law 1298 = .ok (.aload_n 1, 1) := by decide +kernel
theorem dL_law_1299 : decode cL_law 1299 = .ok (.aload_n 0, 1) := by decide +kernel
theorem dL_law_1300 : decode cL_law 1300 = .ok (.iload_n 3, 1) := by decide +kernel
theorem dL_law_1301 : decode cL_law 1301 = .ok (.iconst 1, 1) := by decide +kernel
theorem dL_law_1302 : decode cL_law 1302 = .ok (.iadd, 1) := by decide +kernel
theorem dL_law_1303 : decode cL_law 1303 = .ok (.iaload, 1) := by decide +kernel
theorem dL_law_1304 : decode cL_law 1304 = .ok (.aload_n 0, 1) := by decide +kernel
theorem dL_law_1305 : decode cL_law 1305 = .ok (.iload_n 3, 1) := by decide +kernel
theorem dL_law_1306 : decode cL_law 1306 = .ok (.iconst 2, 1) := by decide +kernel
theorem dL_law_1307 : decode cL_law 1307 = .ok (.iadd, 1) := by decide +kernel
theorem dL_law_1308 : decode cL_law 1308 = .ok (.iaload, 1) := by decide +kernel
theorem dL_law_1309 : decode cL_law 1309 = .ok (.invokevirtual 147, 3) := by decide +kernel
theorem dL_law_1312 : decode cL_law 1312 = .ok (.aload_n 2, 1) := by decide +kernel
theorem dL_law_1313 : decode cL_law 1313 = .ok (.aload_n 0, 1) := by decide +kernel
theorem dL_law_1314 : decode cL_law 1314 = .ok (.iload_n 3, 1) := by decide +kernel
theorem dL_law_1315 : decode cL_law 1315 = .ok (.iconst 1, 1) := by decide +kernel
theorem dL_law_1316 : decode cL_law 1316 = .ok (.iadd, 1) := by decide +kernel
theorem dL_law_1317 : decode cL_law 1317 = .ok (.iaload, 1) := by decide +kernel
theorem dL_law_1318 : decode cL_law 1318 = .ok (.aload_n 0, 1) := by decide +kernel
theorem dL_law_1319 : decode cL_law 1319 = .ok (.iload_n 3, 1) := by decide +kernel
theorem dL_law_1320 : decode cL_law 1320 = .ok (.iconst 2, 1) := by decide +kernel
theorem dL_law_1321 : decode cL_law 1321 = .ok (.iadd, 1) := by decide +kernel
theorem dL_law_1322 : decode cL_law 1322 = .ok (.iaload, 1) := by decide +kernel
theorem dL_law_1323 : decode cL_law 1323 = .ok (.invokevirtual 150, 3) := by decide +kernel
theorem dL_law_1326 : decode cL_law 1326 = .ok (.if_icmp .eq 247, 3) := by decide +kernel
theorem dL_law_1329 : decode cL_law 1329 = .ok (.iconst 0, 1) := by decide +kernel
theorem dL_law_1330 : decode cL_law 1330 = .ok (.ireturn, 1) := by decide +kernel
theorem dL_law_1331 : decode cL_law 1331 = .ok (.aload_n 1, 1) := by decide +kernel
theorem dL_law_1332 : decode cL_law 1332 = .ok (.aload_n 0, 1) := by decide +kernel
theorem dL_law_1333 : decode cL_law 1333 = .ok (.iload_n 3, 1) := by decide +kernel
theorem dL_law_1334 : decode cL_law 1334 = .ok (.iconst 1, 1) := by decide +kernel
theorem dL_law_1335 : decode cL_law 1335 = .ok (.iadd, 1) := by decide +kernel
theorem dL_law_1336 : decode cL_law 1336 = .ok (.iaload, 1) := by decide +kernel
theorem dL_law_1337 : decode cL_law 1337 = .ok (.invokevirtual 151, 3) := by decide +kernel
theorem dL_law_1340 : decode cL_law 1340 = .ok (.aload_n 2, 1) := by decide +kernel
theorem dL_law_1341 : decode cL_law 1341 = .ok (.aload_n 0, 1) := by decide +kernel
theorem dL_law_1342 : decode cL_law 1342 = .ok (.iload_n 3, 1) := by decide +kernel
theorem dL_law_1343 : decode cL_law 1343 = .ok (.iconst 1, 1) := by decide +kernel
theorem dL_law_1344 : decode cL_law 1344 = .ok (.iadd, 1) := by decide +kernel
theorem dL_law_1345 : decode cL_law 1345 = .ok (.iaload, 1) := by decide +kernel
theorem dL_law_1346 : decode cL_law 1346 = .ok (.invokevirtual 154, 3) := by decide +kernel
theorem dL_law_1349 : decode cL_law 1349 = .ok (.if_icmp .eq 224, 3) := by decide +kernel
theorem dL_law_1352 : decode cL_law 1352 = .ok (.iconst 0, 1) := by decide +kernel
theorem dL_law_1353 : decode cL_law 1353 = .ok (.ireturn, 1) := by decide +kernel
theorem dL_law_1354 : decode cL_law 1354 = .ok (.aload_n 1, 1) := by decide +kernel
theorem dL_law_1355 : decode cL_law 1355 = .ok (.invokevirtual 155, 3) := by decide +kernel
theorem dL_law_1358 : decode cL_law 1358 = .ok (.aload_n 2, 1) := by decide +kernel
theorem dL_law_1359 : decode cL_law 1359 = .ok (.invokevirtual 158, 3) := by decide +kernel
theorem dL_law_1362 : decode cL_law 1362 = .ok (.if_icmp .eq 211, 3) := by decide +kernel
theorem dL_law_1365 : decode cL_law 1365 = .ok (.iconst 0, 1) := by decide +kernel
theorem dL_law_1366 : decode cL_law 1366 = .ok (.ireturn, 1) := by decide +kernel
theorem dL_law_1367 : decode cL_law 1367 = .ok (.aload_n 1, 1) := by decide +kernel
theorem dL_law_1368 : decode cL_law 1368 = .ok (.aload_n 0, 1) := by decide +kernel
theorem dL_law_1369 : decode cL_law 1369 = .ok (.iload_n 3, 1) := by decide +kernel
theorem dL_law_1370 : decode cL_law 1370 = .ok (.iconst 1, 1) := by decide +kernel
theorem dL_law_1371 : decode cL_law 1371 = .ok (.iadd, 1) := by decide +kernel
theorem dL_law_1372 : decode cL_law 1372 = .ok (.iaload, 1) := by decide +kernel
theorem dL_law_1373 : decode cL_law 1373 = .ok (.invokevirtual 159, 3) := by decide +kernel
theorem dL_law_1376 : decode cL_law 1376 = .ok (.aload_n 2, 1) := by decide +kernel
theorem dL_law_1377 : decode cL_law 1377 = .ok (.aload_n 0, 1) := by decide +kernel
theorem dL_law_1378 : decode cL_law 1378 = .ok (.iload_n 3, 1) := by decide +kernel
theorem dL_law_1379 : decode cL_law 1379 = .ok (.iconst 1, 1) := by decide +kernel
theorem dL_law_1380 : decode cL_law 1380 = .ok (.iadd, 1) := by decide +kernel
theorem dL_law_1381 : decode cL_law 1381 = .ok (.iaload, 1) := by decide +kernel
theorem dL_law_1382 : decode cL_law 1382 = .ok (.invokevirtual 162, 3) := by decide +kernel
theorem dL_law_1385 : decode cL_law 1385 = .ok (.if_icmp .eq 188, 3) := by decide +kernel
theorem dL_law_1388 : decode cL_law 1388 = .ok (.iconst 0, 1) := by decide +kernel
theorem dL_law_1389 : decode cL_law 1389 = .ok (.ireturn, 1) := by decide +kernel
theorem dL_law_1390 : decode cL_law 1390 = .ok (.aload_n 1, 1) := by decide +kernel
theorem dL_law_1391 : decode cL_law 1391 = .ok (.aload_n 0, 1) := by decide +kernel
theorem dL_law_1392 : decode cL_law 1392 = .ok (.iload_n 3, 1) := by decide +kernel
theorem dL_law_1393 : decode cL_law 1393 = .ok (.iconst 1, 1) := by decide +kernel
theorem dL_law_1394 : decode cL_law 1394 = .ok (.iadd, 1) := by decide +kernel
theorem dL_law_1395 : decode cL_law 1395 = .ok (.iaload, 1) := by decide +kernel
theorem dL_law_1396 : decode cL_law 1396 = .ok (.invokevirtual 163, 3) := by decide +kernel
theorem dL_law_1399 : decode cL_law 1399 = .ok (.aload_n 2, 1) := by decide +kernel
theorem dL_law_1400 : decode cL_law 1400 = .ok (.aload_n 0, 1) := by decide +kernel
theorem dL_law_1401 : decode cL_law 1401 = .ok (.iload_n 3, 1) := by decide +kernel
theorem dL_law_1402 : decode cL_law 1402 = .ok (.iconst 1, 1) := by decide +kernel
theorem dL_law_1403 : decode cL_law 1403 = .ok (.iadd, 1) := by decide +kernel
theorem dL_law_1404 : decode cL_law 1404 = .ok (.iaload, 1) := by decide +kernel
theorem dL_law_1405 : decode cL_law 1405 = .ok (.invokevirtual 166, 3) := by decide +kernel
theorem dL_law_1408 : decode cL_law 1408 = .ok (.if_icmp .eq 165, 3) := by decide +kernel
theorem dL_law_1411 : decode cL_law 1411 = .ok (.iconst 0, 1) := by decide +kernel
theorem dL_law_1412 : decode cL_law 1412 = .ok (.ireturn, 1) := by decide +kernel
theorem dL_law_1413 : decode cL_law 1413 = .ok (.aload_n 1, 1) := by decide +kernel
theorem dL_law_1414 : decode cL_law 1414 = .ok (.aload_n 0, 1) := by decide +kernel
theorem dL_law_1415 : decode cL_law 1415 = .ok (.iload_n 3, 1) := by decide +kernel
theorem dL_law_1416 : decode cL_law 1416 = .ok (.iconst 1, 1) := by decide +kernel
theorem dL_law_1417 : decode cL_law 1417 = .ok (.iadd, 1) := by decide +kernel
theorem dL_law_1418 : decode cL_law 1418 = .ok (.iaload, 1) := by decide +kernel
theorem dL_law_1419 : decode cL_law 1419 = .ok (.invokevirtual 167, 3) := by decide +kernel
theorem dL_law_1422 : decode cL_law 1422 = .ok (.aload_n 2, 1) := by decide +kernel
theorem dL_law_1423 : decode cL_law 1423 = .ok (.aload_n 0, 1) := by decide +kernel
theorem dL_law_1424 : decode cL_law 1424 = .ok (.iload_n 3, 1) := by decide +kernel
theorem dL_law_1425 : decode cL_law 1425 = .ok (.iconst 1, 1) := by decide +kernel
theorem dL_law_1426 : decode cL_law 1426 = .ok (.iadd, 1) := by decide +kernel
theorem dL_law_1427 : decode cL_law 1427 = .ok (.iaload, 1) := by decide +kernel
theorem dL_law_1428 : decode cL_law 1428 = .ok (.invokevirtual 170, 3) := by decide +kernel
theorem dL_law_1431 : decode cL_law 1431 = .ok (.if_icmp .eq 142, 3) := by decide +kernel
theorem dL_law_1434 : decode cL_law 1434 = .ok (.iconst 0, 1) := by decide +kernel
theorem dL_law_1435 : decode cL_law 1435 = .ok (.ireturn, 1) := by decide +kernel
theorem dL_law_1436 : decode cL_law 1436 = .ok (.aload_n 1, 1) := by decide +kernel
theorem dL_law_1437 : decode cL_law 1437 = .ok (.aload_n 0, 1) := by decide +kernel
theorem dL_law_1438 : decode cL_law 1438 = .ok (.iload_n 3, 1) := by decide +kernel
theorem dL_law_1439 : decode cL_law 1439 = .ok (.iconst 1, 1) := by decide +kernel
theorem dL_law_1440 : decode cL_law 1440 = .ok (.iadd, 1) := by decide +kernel
theorem dL_law_1441 : decode cL_law 1441 = .ok (.iaload, 1) := by decide +kernel
theorem dL_law_1442 : decode cL_law 1442 = .ok (.invokevirtual 171, 3) := by decide +kernel
theorem dL_law_1445 : decode cL_law 1445 = .ok (.aload_n 2, 1) := by decide +kernel
theorem dL_law_1446 : decode cL_law 1446 = .ok (.aload_n 0, 1) := by decide +kernel
theorem dL_law_1447 : decode cL_law 1447 = .ok (.iload_n 3, 1) := by decide +kernel
theorem dL_law_1448 : decode cL_law 1448 = .ok (.iconst 1, 1) := by decide +kernel
theorem dL_law_1449 : decode cL_law 1449 = .ok (.iadd, 1) := by decide +kernel
theorem dL_law_1450 : decode cL_law 1450 = .ok (.iaload, 1) := by decide +kernel
theorem dL_law_1451 : decode cL_law 1451 = .ok (.invokevirtual 174, 3) := by decide +kernel
theorem dL_law_1454 : decode cL_law 1454 = .ok (.if_icmp .eq 119, 3) := by decide +kernel
theorem dL_law_1457 : decode cL_law 1457 = .ok (.iconst 0, 1) := by decide +kernel
theorem dL_law_1458 : decode cL_law 1458 = .ok (.ireturn, 1) := by decide +kernel
theorem dL_law_1459 : decode cL_law 1459 = .ok (.aload_n 1, 1) := by decide +kernel
theorem dL_law_1460 : decode cL_law 1460 = .ok (.invokevirtual 175, 3) := by decide +kernel
theorem dL_law_1463 : decode cL_law 1463 = .ok (.aload_n 2, 1) := by decide +kernel
theorem dL_law_1464 : decode cL_law 1464 = .ok (.invokevirtual 178, 3) := by decide +kernel
theorem dL_law_1467 : decode cL_law 1467 = .ok (.if_icmp .eq 106, 3) := by decide +kernel
theorem dL_law_1470 : decode cL_law 1470 = .ok (.iconst 0, 1) := by decide +kernel
theorem dL_law_1471 : decode cL_law 1471 = .ok (.ireturn, 1) := by decide +kernel
theorem dL_law_1472 : decode cL_law 1472 = .ok (.aload_n 1, 1) := by decide +kernel
theorem dL_law_1473 : decode cL_law 1473 = .ok (.invokevirtual 179, 3) := by decide +kernel
theorem dL_law_1476 : decode cL_law 1476 = .ok (.aload_n 2, 1) := by decide +kernel
theorem dL_law_1477 : decode cL_law 1477 = .ok (.invokevirtual 183, 3) := by decide +kernel
theorem dL_law_1480 : decode cL_law 1480 = .ok (.lcmp, 1) := by decide +kernel
theorem dL_law_1481 : decode cL_law 1481 = .ok (.ifCond .eq 92, 3) := by decide +kernel
theorem dL_law_1484 : decode cL_law 1484 = .ok (.iconst 0, 1) := by decide +kernel
theorem dL_law_1485 : decode cL_law 1485 = .ok (.ireturn, 1) := by decide +kernel
theorem dL_law_1486 : decode cL_law 1486 = .ok (.aload_n 1, 1) := by decide +kernel
theorem dL_law_1487 : decode cL_law 1487 = .ok (.invokevirtual 184, 3) := by decide +kernel
theorem dL_law_1490 : decode cL_law 1490 = .ok (.aload_n 2, 1) := by decide +kernel
theorem dL_law_1491 : decode cL_law 1491 = .ok (.invokevirtual 187, 3) := by decide +kernel
theorem dL_law_1494 : decode cL_law 1494 = .ok (.lcmp, 1) := by decide +kernel
theorem dL_law_1495 : decode cL_law 1495 = .ok (.ifCond .eq 78, 3) := by decide +kernel
theorem dL_law_1498 : decode cL_law 1498 = .ok (.iconst 0, 1) := by decide +kernel
theorem dL_law_1499 : decode cL_law 1499 = .ok (.ireturn, 1) := by decide +kernel
theorem dL_law_1500 : decode cL_law 1500 = .ok (.aload_n 1, 1) := by decide +kernel
theorem dL_law_1501 : decode cL_law 1501 = .ok (.aload_n 0, 1) := by decide +kernel
theorem dL_law_1502 : decode cL_law 1502 = .ok (.iload_n 3, 1) := by decide +kernel
theorem dL_law_1503 : decode cL_law 1503 = .ok (.iconst 1, 1) := by decide +kernel
theorem dL_law_1504 : decode cL_law 1504 = .ok (.iadd, 1) := by decide +kernel
theorem dL_law_1505 : decode cL_law 1505 = .ok (.iaload, 1) := by decide +kernel
theorem dL_law_1506 : decode cL_law 1506 = .ok (.invokevirtual 188, 3) := by decide +kernel
theorem dL_law_1509 : decode cL_law 1509 = .ok (.aload_n 2, 1) := by decide +kernel
theorem dL_law_1510 : decode cL_law 1510 = .ok (.aload_n 0, 1) := by decide +kernel
theorem dL_law_1511 : decode cL_law 1511 = .ok (.iload_n 3, 1) := by decide +kernel
theorem dL_law_1512 : decode cL_law 1512 = .ok (.iconst 1, 1) := by decide +kernel
theorem dL_law_1513 : decode cL_law 1513 = .ok (.iadd, 1) := by decide +kernel
theorem dL_law_1514 : decode cL_law 1514 = .ok (.iaload, 1) := by decide +kernel
theorem dL_law_1515 : decode cL_law 1515 = .ok (.invokevirtual 191, 3) := by decide +kernel
theorem dL_law_1518 : decode cL_law 1518 = .ok (.if_icmp .eq 55, 3) := by decide +kernel
theorem dL_law_1521 : decode cL_law 1521 = .ok (.iconst 0, 1) := by decide +kernel
theorem dL_law_1522 : decode cL_law 1522 = .ok (.ireturn, 1) := by decide +kernel
theorem dL_law_1523 : decode cL_law 1523 = .ok (.aload_n 1, 1) := by decide +kernel
theorem dL_law_1524 : decode cL_law 1524 = .ok (.invokevirtual 192, 3) := by decide +kernel
theorem dL_law_1527 : decode cL_law 1527 = .ok (.aload_n 2, 1) := by decide +kernel
theorem dL_law_1528 : decode cL_law 1528 = .ok (.invokevirtual 195, 3) := by decide +kernel
theorem dL_law_1531 : decode cL_law 1531 = .ok (.if_icmp .eq 42, 3) := by decide +kernel
theorem dL_law_1534 : decode cL_law 1534 = .ok (.iconst 0, 1) := by decide +kernel
theorem dL_law_1535 : decode cL_law 1535 = .ok (.ireturn, 1) := by decide +kernel
theorem dL_law_1536 : decode cL_law 1536 = .ok (.aload_n 1, 1) := by decide +kernel
theorem dL_law_1537 : decode cL_law 1537 = .ok (.aload_n 0, 1) := by decide +kernel
theorem dL_law_1538 : decode cL_law 1538 = .ok (.iload_n 3, 1) := by decide +kernel
theorem dL_law_1539 : decode cL_law 1539 = .ok (.iconst 1, 1) := by decide +kernel
theorem dL_law_1540 : decode cL_law 1540 = .ok (.iadd, 1) := by decide +kernel
theorem dL_law_1541 : decode cL_law 1541 = .ok (.iaload, 1) := by decide +kernel
theorem dL_law_1542 : decode cL_law 1542 = .ok (.invokevirtual 196, 3) := by decide +kernel
theorem dL_law_1545 : decode cL_law 1545 = .ok (.aload_n 2, 1) := by decide +kernel
theorem dL_law_1546 : decode cL_law 1546 = .ok (.aload_n 0, 1) := by decide +kernel
theorem dL_law_1547 : decode cL_law 1547 = .ok (.iload_n 3, 1) := by decide +kernel
theorem dL_law_1548 : decode cL_law 1548 = .ok (.iconst 1, 1) := by decide +kernel
theorem dL_law_1549 : decode cL_law 1549 = .ok (.iadd, 1) := by decide +kernel
theorem dL_law_1550 : decode cL_law 1550 = .ok (.iaload, 1) := by decide +kernel
theorem dL_law_1551 : decode cL_law 1551 = .ok (.invokevirtual 199, 3) := by decide +kernel
theorem dL_law_1554 : decode cL_law 1554 = .ok (.if_icmp .eq 19, 3) := by decide +kernel
theorem dL_law_1557 : decode cL_law 1557 = .ok (.iconst 0, 1) := by decide +kernel
theorem dL_law_1558 : decode cL_law 1558 = .ok (.ireturn, 1) := by decide +kernel
theorem dL_law_1559 : decode cL_law 1559 = .ok (.aload_n 1, 1) := by decide +kernel
theorem dL_law_1560 : decode cL_law 1560 = .ok (.invokevirtual 200, 3) := by decide +kernel
theorem dL_law_1563 : decode cL_law 1563 = .ok (.aload_n 2, 1) := by decide +kernel
theorem dL_law_1564 : decode cL_law 1564 = .ok (.invokevirtual 203, 3) := by decide +kernel
theorem dL_law_1567 : decode cL_law 1567 = .ok (.lcmp, 1) := by decide +kernel
theorem dL_law_1568 : decode cL_law 1568 = .ok (.ifCond .eq 5, 3) := by decide +kernel
theorem dL_law_1571 : decode cL_law 1571 = .ok (.iconst 0, 1) := by decide +kernel
theorem dL_law_1572 : decode cL_law 1572 = .ok (.ireturn, 1) := by decide +kernel
theorem dL_law_1573 : decode cL_law 1573 = .ok (.iinc 3 6, 3) := by decide +kernel
theorem dL_law_1576 : decode cL_law 1576 = .ok (.goto (-1558), 3) := by decide +kernel
theorem dL_law_1579 : decode cL_law 1579 = .ok (.iconst 1, 1) := by decide +kernel
theorem dL_law_1580 : decode cL_law 1580 = .ok (.ireturn, 1) := by decide +kernel
def OK_0 (N : Nat) (Rel : Mm → Prop) : Prop := ∀ (a1 : Int32) (a2 : Int32) (mm : Mm), Rel mm → ∃ (v : Int32) (m1 m2 : Mm), fX11_row N 0 a1 a2 mm = some (v, m1) ∧ fX12_row N 175 a1 a2 m1 = some (v, m2) ∧ Rel m2
def OK_1 (N : Nat) (Rel : Mm → Prop) : Prop := ∀ (a1 : Int32) (a2 : Int32) (a3 : Int32) (mm : Mm), Rel mm → ∃ (v : Int32) (m1 m2 : Mm), fX11_lay N 0 a1 a2 a3 mm = some (v, m1) ∧ fX12_lay N 175 a1 a2 a3 m1 = some (v, m2) ∧ Rel m2
def OK_2 (N : Nat) (Rel : Mm → Prop) : Prop := ∀ (a1 : Int32) (a2 : Int32) (mm : Mm), Rel mm → ∃ (v : Int32) (m1 m2 : Mm), fX11_at N 0 a1 a2 mm = some (v, m1) ∧ fX12_at N 175 a1 a2 m1 = some (v, m2) ∧ Rel m2
def OK_3 (N : Nat) (Rel : Mm → Prop) : Prop := ∀ (a1 : Int32) (mm : Mm), Rel mm → ∃ (v : Int32) (m1 m2 : Mm), fX11_tear N 0 a1 mm = some (v, m1) ∧ fX12_tear N 175 a1 m1 = some (v, m2) ∧ Rel m2
def OK_4 (N : Nat) (Rel : Mm → Prop) : Prop := ∀ (a1 : Int32) (a2 : Int32) (a3 : Int32) (a4 : Int32) (a5 : Int32) (mm : Mm), Rel mm → ∃ (v : Int32) (m1 m2 : Mm), fX11_copy N 0 a1 a2 a3 a4 a5 mm = some (v, m1) ∧ fX12_copy N 175 a1 a2 a3 a4 a5 m1 = some (v, m2) ∧ Rel m2
def OK_5 (N : Nat) (Rel : Mm → Prop) : Prop := ∀ (a1 : Int32) (mm : Mm), Rel mm → ∃ (v : Int32) (m1 m2 : Mm), fX11_mean N 0 a1 mm = some (v, m1) ∧ fX12_mean N 175 a1 m1 = some (v, m2) ∧ Rel m2
def OK_6 (N : Nat) (Rel : Mm → Prop) : Prop := ∀ (a1 : Int32) (a2 : Int32) (mm : Mm), Rel mm → ∃ (v : Int32) (m1 m2 : Mm), fX11_text N 0 a1 a2 mm = some (v, m1) ∧ fX12_text N 175 a1 a2 m1 = some (v, m2) ∧ Rel m2
def OK_7 (N : Nat) (Rel : Mm → Prop) : Prop := ∀ (a1 : Int32) (a2 : Int32) (a3 : Int32) (mm : Mm), Rel mm → ∃ (v : Int32) (m1 m2 : Mm), fX11_put N 0 a1 a2 a3 mm = some (v, m1) ∧ fX12_put N 175 a1 a2 a3 m1 = some (v, m2) ∧ Rel m2
def OK_8 (N : Nat) (Rel : Mm → Prop) : Prop := ∀ (a1 : Int32) (mm : Mm), Rel mm → ∃ (v : Int32) (m1 m2 : Mm), fX11_fault N 0 a1 mm = some (v, m1) ∧ fX12_fault N 175 a1 m1 = some (v, m2) ∧ Rel m2
def OK_9 (N : Nat) (Rel : Mm → Prop) : Prop := ∀ (a1 : Int32) (mm : Mm), Rel mm → ∃ (v : Int32) (m1 m2 : Mm), fX11_court N 0 a1 mm = some (v, m1) ∧ fX12_court N 175 a1 m1 = some (v, m2) ∧ Rel m2
def OK_10 (N : Nat) (Rel : Mm → Prop) : Prop := ∀ (a1 : Int32) (a2 : Int32) (mm : Mm), Rel mm → ∃ (v : Int32) (m1 m2 : Mm), fX11_suit N 0 a1 a2 mm = some (v, m1) ∧ fX12_suit N 175 a1 a2 m1 = some (v, m2) ∧ Rel m2
def OK_11 (N : Nat) (Rel : Mm → Prop) : Prop := ∀ (a1 : Int32) (a2 : Int32) (mm : Mm), Rel mm → ∃ (v : Int32) (m1 m2 : Mm), fX11_mark N 0 a1 a2 mm = some (v, m1) ∧ fX12_mark N 175 a1 a2 m1 = some (v, m2) ∧ Rel m2
def OK_12 (N : Nat) (Rel : Mm → Prop) : Prop := ∀ (a1 : Int32) (a2 : Int32) (mm : Mm), Rel mm → ∃ (v : Int32) (m1 m2 : Mm), fX11_stock N 0 a1 a2 mm = some (v, m1) ∧ fX12_stock N 175 a1 a2 m1 = some (v, m2) ∧ Rel m2
def OK_13 (N : Nat) (Rel : Mm → Prop) : Prop := ∀ (a1 : Int32) (mm : Mm), Rel mm → ∃ (v : Int32) (m1 m2 : Mm), fX11_damp N 0 a1 mm = some (v, m1) ∧ fX12_damp N 175 a1 m1 = some (v, m2) ∧ Rel m2
def OK_14 (N : Nat) (Rel : Mm → Prop) : Prop := ∀ (a1 : Int32) (a2 : Int32) (mm : Mm), Rel mm → ∃ (v : Int32) (m1 m2 : Mm), fX11_judge N 0 a1 a2 mm = some (v, m1) ∧ fX12_judge N 175 a1 a2 m1 = some (v, m2) ∧ Rel m2
def OK_15 (N : Nat) (Rel : Mm → Prop) : Prop := ∀ (a1 : Int32) (a2 : Int32) (a3 : Int32) (mm : Mm), Rel mm → ∃ (v : Int32) (m1 m2 : Mm), fX11_who N 0 a1 a2 a3 mm = some (v, m1) ∧ fX12_who N 175 a1 a2 a3 m1 = some (v, m2) ∧ Rel m2
def OK_16 (N : Nat) (Rel : Mm → Prop) : Prop := ∀ (a1 : Int32) (a2 : Int32) (mm : Mm), Rel mm → ∃ (v : Int32) (m1 m2 : Mm), fX11_best N 0 a1 a2 mm = some (v, m1) ∧ fX12_best N 175 a1 a2 m1 = some (v, m2) ∧ Rel m2
def OK_17 (N : Nat) (Rel : Mm → Prop) : Prop := ∀ (a1 : Int32) (a2 : Int32) (mm : Mm), Rel mm → ∃ (v : Int32) (m1 m2 : Mm), fX11_fewest N 0 a1 a2 mm = some (v, m1) ∧ fX12_fewest N 175 a1 a2 m1 = some (v, m2) ∧ Rel m2
def OK_18 (N : Nat) (Rel : Mm → Prop) : Prop := ∀ (a1 : Int32) (a2 : Int32) (mm : Mm), Rel mm → ∃ (v : Int32) (m1 m2 : Mm), fX11_ways N 0 a1 a2 mm = some (v, m1) ∧ fX12_ways N 175 a1 a2 m1 = some (v, m2) ∧ Rel m2
def OK_19 (N : Nat) (Rel : Mm → Prop) : Prop := ∀ (a1 : Int32) (mm : Mm), Rel mm → ∃ (v : Int32) (m1 m2 : Mm), fX11_sure N 0 a1 mm = some (v, m1) ∧ fX12_sure N 175 a1 m1 = some (v, m2) ∧ Rel m2
def OK_20 (N : Nat) (Rel : Mm → Prop) : Prop := ∀ (a1 : Int32) (mm : Mm), Rel mm → ∃ (v : Int32) (m1 m2 : Mm), fX11_safe N 0 a1 mm = some (v, m1) ∧ fX12_safe N 175 a1 m1 = some (v, m2) ∧ Rel m2
def OK_21 (N : Nat) (Rel : Mm → Prop) : Prop := ∀ (a1 : Int32) (a2 : Int32) (a3 : Int32) (a4 : Int32) (mm : Mm), Rel mm → ∃ (v : Int32) (m1 m2 : Mm), fX11_mixed N 0 a1 a2 a3 a4 mm = some (v, m1) ∧ fX12_mixed N 175 a1 a2 a3 a4 m1 = some (v, m2) ∧ Rel m2
def OK_22 (N : Nat) (Rel : Mm → Prop) : Prop := ∀ (a1 : Int32) (a2 : Int32) (mm : Mm), Rel mm → ∃ (v : Int32) (m1 m2 : Mm), fX11_mix N 0 a1 a2 mm = some (v, m1) ∧ fX12_mix N 175 a1 a2 m1 = some (v, m2) ∧ Rel m2
def OK_23 (N : Nat) (Rel : Mm → Prop) : Prop := ∀  (mm : Mm), Rel mm → ∃ (v : Int32) (m1 m2 : Mm), fX11_turns N 0  mm = some (v, m1) ∧ fX12_turns N 175  m1 = some (v, m2) ∧ Rel m2
def OK_24 (N : Nat) (Rel : Mm → Prop) : Prop := ∀ (a1 : Int32) (a2 : Int32) (a3 : Int32) (mm : Mm), Rel mm → ∃ (v : Int32) (m1 m2 : Mm), fX11_from N 0 a1 a2 a3 mm = some (v, m1) ∧ fX12_from N 175 a1 a2 a3 m1 = some (v, m2) ∧ Rel m2
def OK_25 (N : Nat) (Rel : Mm → Prop) : Prop := ∀ (a1 : Int32) (a2 : Int32) (a3 : Int32) (a4 : Int32) (mm : Mm), Rel mm → ∃ (v : Int32) (m1 m2 : Mm), fX11_answer N 0 a1 a2 a3 a4 mm = some (v, m1) ∧ fX12_answer N 175 a1 a2 a3 a4 m1 = some (v, m2) ∧ Rel m2
def OK_26 (N : Nat) (Rel : Mm → Prop) : Prop := ∀ (a1 : Int32) (a2 : Int32) (mm : Mm), Rel mm → ∃ (v : Int32) (m1 m2 : Mm), fX11_lender N 0 a1 a2 mm = some (v, m1) ∧ fX12_lender N 175 a1 a2 m1 = some (v, m2) ∧ Rel m2
def OK_27 (N : Nat) (Rel : Mm → Prop) : Prop := ∀ (a1 : Int32) (a2 : Int32) (mm : Mm), Rel mm → ∃ (v : Int32) (m1 m2 : Mm), fX11_lend N 0 a1 a2 mm = some (v, m1) ∧ fX12_lend N 175 a1 a2 m1 = some (v, m2) ∧ Rel m2
def OK_28 (N : Nat) (Rel : Mm → Prop) : Prop := ∀ (a1 : Int32) (a2 : Int32) (mm : Mm), Rel mm → ∃ (v : Int32) (m1 m2 : Mm), fX11_leaves N 0 a1 a2 mm = some (v, m1) ∧ fX12_leaves N 175 a1 a2 m1 = some (v, m2) ∧ Rel m2
def OK_29 (N : Nat) (Rel : Mm → Prop) : Prop := ∀ (a1 : Int32) (a2 : Int32) (mm : Mm), Rel mm → ∃ (v : Int32) (m1 m2 : Mm), fX11_adds N 0 a1 a2 mm = some (v, m1) ∧ fX12_adds N 175 a1 a2 m1 = some (v, m2) ∧ Rel m2
def OK_30 (N : Nat) (Rel : Mm → Prop) : Prop := ∀ (a1 : Int32) (mm : Mm), Rel mm → ∃ (v : Int32) (m1 m2 : Mm), fX11_when N 0 a1 mm = some (v, m1) ∧ fX12_when N 175 a1 m1 = some (v, m2) ∧ Rel m2
def OK_31 (N : Nat) (Rel : Mm → Prop) : Prop := ∀ (a1 : Int32) (a2 : Int32) (mm : Mm), Rel mm → ∃ (v : Int32) (m1 m2 : Mm), fX11_rule N 0 a1 a2 mm = some (v, m1) ∧ fX12_rule N 175 a1 a2 m1 = some (v, m2) ∧ Rel m2
def OK_32 (N : Nat) (Rel : Mm → Prop) : Prop := ∀ (a1 : Int32) (a2 : Int32) (mm : Mm), Rel mm → ∃ (v : Int32) (m1 m2 : Mm), fX11_note N 0 a1 a2 mm = some (v, m1) ∧ fX12_note N 175 a1 a2 m1 = some (v, m2) ∧ Rel m2
def OK_33 (N : Nat) (Rel : Mm → Prop) : Prop := ∀ (a1 : Int32) (mm : Mm), Rel mm → ∃ (v : Int32) (m1 m2 : Mm), fX11_back N 0 a1 mm = some (v, m1) ∧ fX12_back N 175 a1 m1 = some (v, m2) ∧ Rel m2
def OK_34 (N : Nat) (Rel : Mm → Prop) : Prop := ∀  (mm : Mm), Rel mm → ∃ (v : Int32) (m1 m2 : Mm), fX11_rules N 0  mm = some (v, m1) ∧ fX12_rules N 175  m1 = some (v, m2) ∧ Rel m2
def OK_35 (N : Nat) (Rel : Mm → Prop) : Prop := ∀ (a1 : Int32) (mm : Mm), Rel mm → ∃ (v : Int32) (m1 m2 : Mm), fX11_reply N 0 a1 mm = some (v, m1) ∧ fX12_reply N 175 a1 m1 = some (v, m2) ∧ Rel m2
def OK_36 (N : Nat) (Rel : Mm → Prop) : Prop := ∀ (a1 : Int32) (mm : Mm), Rel mm → ∃ (v : Int32) (m1 m2 : Mm), fX11_tell N 0 a1 mm = some (v, m1) ∧ fX12_tell N 175 a1 m1 = some (v, m2) ∧ Rel m2
def OK_37 (N : Nat) (Rel : Mm → Prop) : Prop := ∀ (a1 : Int32) (mm : Mm), Rel mm → ∃ (v : Int32) (m1 m2 : Mm), fX11_keep N 0 a1 mm = some (v, m1) ∧ fX12_keep N 175 a1 m1 = some (v, m2) ∧ Rel m2
def OK_38 (N : Nat) (Rel : Mm → Prop) : Prop := ∀ (a1 : Int32) (mm : Mm), Rel mm → ∃ (v : Int32) (m1 m2 : Mm), fX11_on N 0 a1 mm = some (v, m1) ∧ fX12_on N 175 a1 m1 = some (v, m2) ∧ Rel m2
def OK_39 (N : Nat) (Rel : Mm → Prop) : Prop := ∀  (mm : Mm), Rel mm → ∃ (v : Int32) (m1 m2 : Mm), fX11_asked N 0  mm = some (v, m1) ∧ fX12_asked N 175  m1 = some (v, m2) ∧ Rel m2
def OK_40 (N : Nat) (Rel : Mm → Prop) : Prop := ∀  (mm : Mm), Rel mm → ∃ (v : Int64) (m1 m2 : Mm), fX11_upper N 0  mm = some (v, m1) ∧ fX12_upper N 175  m1 = some (v, m2) ∧ Rel m2
def OK_41 (N : Nat) (Rel : Mm → Prop) : Prop := ∀  (mm : Mm), Rel mm → ∃ (v : Int64) (m1 m2 : Mm), fX11_lower N 0  mm = some (v, m1) ∧ fX12_lower N 175  m1 = some (v, m2) ∧ Rel m2
def OK_42 (N : Nat) (Rel : Mm → Prop) : Prop := ∀ (a1 : Int32) (mm : Mm), Rel mm → ∃ (v : Int32) (m1 m2 : Mm), fX11_count N 0 a1 mm = some (v, m1) ∧ fX12_count N 175 a1 m1 = some (v, m2) ∧ Rel m2
def OK_43 (N : Nat) (Rel : Mm → Prop) : Prop := ∀  (mm : Mm), Rel mm → ∃ (v : Int32) (m1 m2 : Mm), fX11_finding N 0  mm = some (v, m1) ∧ fX12_finding N 175  m1 = some (v, m2) ∧ Rel m2
def OK_44 (N : Nat) (Rel : Mm → Prop) : Prop := ∀ (a1 : Int32) (mm : Mm), Rel mm → ∃ (v : Int32) (m1 m2 : Mm), fX11_findings N 0 a1 mm = some (v, m1) ∧ fX12_findings N 175 a1 m1 = some (v, m2) ∧ Rel m2
def OK_45 (N : Nat) (Rel : Mm → Prop) : Prop := ∀  (mm : Mm), Rel mm → ∃ (v : Int64) (m1 m2 : Mm), fX11_digest N 0  mm = some (v, m1) ∧ fX12_digest N 175  m1 = some (v, m2) ∧ Rel m2
def OKall (N : Nat) (Rel : Mm → Prop) : Prop := OK_0 N Rel ∧ OK_1 N Rel ∧ OK_2 N Rel ∧ OK_3 N Rel ∧ OK_4 N Rel ∧ OK_5 N Rel ∧ OK_6 N Rel ∧ OK_7 N Rel ∧ OK_8 N Rel ∧ OK_9 N Rel ∧ OK_10 N Rel ∧ OK_11 N Rel ∧ OK_12 N Rel ∧ OK_13 N Rel ∧ OK_14 N Rel ∧ OK_15 N Rel ∧ OK_16 N Rel ∧ OK_17 N Rel ∧ OK_18 N Rel ∧ OK_19 N Rel ∧ OK_20 N Rel ∧ OK_21 N Rel ∧ OK_22 N Rel ∧ OK_23 N Rel ∧ OK_24 N Rel ∧ OK_25 N Rel ∧ OK_26 N Rel ∧ OK_27 N Rel ∧ OK_28 N Rel ∧ OK_29 N Rel ∧ OK_30 N Rel ∧ OK_31 N Rel ∧ OK_32 N Rel ∧ OK_33 N Rel ∧ OK_34 N Rel ∧ OK_35 N Rel ∧ OK_36 N Rel ∧ OK_37 N Rel ∧ OK_38 N Rel ∧ OK_39 N Rel ∧ OK_40 N Rel ∧ OK_41 N Rel ∧ OK_42 N Rel ∧ OK_43 N Rel ∧ OK_44 N Rel ∧ OK_45 N Rel
section LW
variable {p : Program} {l : Launch} {e : Env} {s : State} {m : MethodId} {b L : Nat} {xs : Nat → Int32} {below : List Frame} {meth : Method} {c : Code} {D : va_G} {ca ad : Nat → Nat} {Q : State → Prop} {N : Nat} {Rel : Mm → Prop} {x3 : Int32} {mm : Mm} {H : Heap} {locs : List Loc} {ls : Array Slot}
set_option maxRecDepth 100000 in
set_option maxHeartbeats 4000000 in
theorem lc_0 (C : Cx p s m meth c #[Value.ref b] code 4 ret RL D ca ad) (hX : va_X b L xs s s.heap) (hbl : b < s.heap.size) (hbA : ¬ AA ad b) (hcs : 197 + 0 ≤ room_1.cells ∧ 6445 + 0 ≤ room_1.slots) (hi1 : vp_in (x3 + 1) L) (hi2 : vp_in (x3 + 2) L) (hOK : OK_0 N Rel) (hR : Rel mm) (hW : Wd D ca ad s.heap mm H locs) (hl : lv_has ls 4 [(3, .int x3), (2, .ref (ad 175)), (1, .ref (ad 0)), (0, .ref b)]) (kk : ∀ (mm : Mm) (H : Heap) (locs : List Loc) (ls : Array Slot), Rel mm → Wd D ca ad s.heap mm H locs → lv_has ls 4 [(3, .int x3), (2, .ref (ad 175)), (1, .ref (ad 0)), (0, .ref b)] → W p l e room_1 s m #[Value.ref b] below meth c H locs 197 6445 Q (F0 m 1573 ls [])) : W p l e room_1 s m #[Value.ref b] below meth c H locs 197 6445 Q (F0 m 232 ls []) := by
  obtain ⟨v, m1, m2, e1, e2, hR⟩ := hOK (xs (x3 + 1).toNatClampNeg) (xs (x3 + 2).toNatClampNeg) mm hR
  refine lv_aload_n C.1 C.2.1 dL_law_232 rfl (lv_at hl 2 rfl) ?_
  refine lv_aload_n C.1 C.2.1 dL_law_233 rfl (lv_at hl 3 rfl) ?_
  refine lv_iload_n C.1 C.2.1 dL_law_234 rfl (lv_at hl 0 rfl) ?_
  refine lv_iconst (v := 1) C.1 C.2.1 dL_law_235 (by decide) ?_
  refine lv_iadd C.1 C.2.1 dL_law_236 ?_
  refine va_sld C.1 C.2.1 hX hbl hbA hW.2 hi1 dL_law_237 ?_
  refine lv_aload_n C.1 C.2.1 dL_law_238 rfl (lv_at hl 3 rfl) ?_
  refine lv_iload_n C.1 C.2.1 dL_law_239 rfl (lv_at hl 0 rfl) ?_
  refine lv_iconst (v := 2) C.1 C.2.1 dL_law_240 (by decide) ?_
  refine lv_iadd C.1 C.2.1 dL_law_241 ?_
  refine va_sld C.1 C.2.1 hX hbl hbA hW.2 hi2 dL_law_242 ?_
  refine z_ci hW (z_runV C hW [.int (xs (x3 + 1).toNatClampNeg), .int (xs (x3 + 2).toNatClampNeg)] [] s11_0.1 s11_0.2.1 kX11.1 kvX11_row q_361 (tX11_row l C.2.2.2.2.2.2.1 s11_0 e1) rfl rfl ⟨by decide, by decide⟩ rfl hl.1 rfl (Nat.le_of_ble_eq_true rfl) dL_law_243 hcs) (fun H locs hW => ?_)
  refine lv_aload_n C.1 C.2.1 dL_law_246 rfl (lv_at hl 1 rfl) ?_
  refine lv_aload_n C.1 C.2.1 dL_law_247 rfl (lv_at hl 3 rfl) ?_
  refine lv_iload_n C.1 C.2.1 dL_law_248 rfl (lv_at hl 0 rfl) ?_
  refine lv_iconst (v := 1) C.1 C.2.1 dL_law_249 (by decide) ?_
  refine lv_iadd C.1 C.2.1 dL_law_250 ?_
  refine va_sld C.1 C.2.1 hX hbl hbA hW.2 hi1 dL_law_251 ?_
  refine lv_aload_n C.1 C.2.1 dL_law_252 rfl (lv_at hl 3 rfl) ?_
  refine lv_iload_n C.1 C.2.1 dL_law_253 rfl (lv_at hl 0 rfl) ?_
  refine lv_iconst (v := 2) C.1 C.2.1 dL_law_254 (by decide) ?_
  refine lv_iadd C.1 C.2.1 dL_law_255 ?_
  refine va_sld C.1 C.2.1 hX hbl hbA hW.2 hi2 dL_law_256 ?_
  refine z_ci hW (z_runV C hW [.int (xs (x3 + 1).toNatClampNeg), .int (xs (x3 + 2).toNatClampNeg)] [.int v] s12_175.1 s12_175.2.1 kX12.1 kvX12_row q_1143 (tX12_row l C.2.2.2.2.2.2.1 s12_175 e2) rfl rfl ⟨by decide, by decide⟩ rfl hl.1 rfl (Nat.le_of_ble_eq_true rfl) dL_law_257 hcs) (fun H locs hW => ?_)
  exact lv_icmp_eq (tgt := 1573) C.1 C.2.1 dL_law_260 (by decide) (fun _ => kk _ _ _ _ hR hW hl) (fun c => absurd rfl c)
set_option maxRecDepth 100000 in
set_option maxHeartbeats 4000000 in
theorem lc_1 (C : Cx p s m meth c #[Value.ref b] code 4 ret RL D ca ad) (hX : va_X b L xs s s.heap) (hbl : b < s.heap.size) (hbA : ¬ AA ad b) (hcs : 197 + 0 ≤ room_1.cells ∧ 6445 + 0 ≤ room_1.slots) (hi1 : vp_in (x3 + 1) L) (hi2 : vp_in (x3 + 2) L) (hi3 : vp_in (x3 + 3) L) (hOK : OK_1 N Rel) (hR : Rel mm) (hW : Wd D ca ad s.heap mm H locs) (hl : lv_has ls 4 [(3, .int x3), (2, .ref (ad 175)), (1, .ref (ad 0)), (0, .ref b)]) (kk : ∀ (mm : Mm) (H : Heap) (locs : List Loc) (ls : Array Slot), Rel mm → Wd D ca ad s.heap mm H locs → lv_has ls 4 [(3, .int x3), (2, .ref (ad 175)), (1, .ref (ad 0)), (0, .ref b)] → W p l e room_1 s m #[Value.ref b] below meth c H locs 197 6445 Q (F0 m 1573 ls [])) : W p l e room_1 s m #[Value.ref b] below meth c H locs 197 6445 Q (F0 m 265 ls []) := by
  obtain ⟨v, m1, m2, e1, e2, hR⟩ := hOK (xs (x3 + 1).toNatClampNeg) (xs (x3 + 2).toNatClampNeg) (xs (x3 + 3).toNatClampNeg) mm hR
  refine lv_aload_n C.1 C.2.1 dL_law_265 rfl (lv_at hl 2 rfl) ?_
  refine lv_aload_n C.1 C.2.1 dL_law_266 rfl (lv_at hl 3 rfl) ?_
  refine lv_iload_n C.1 C.2.1 dL_law_267 rfl (lv_at hl 0 rfl) ?_
  refine lv_iconst (v := 1) C.1 C.2.1 dL_law_268 (by decide) ?_
  refine lv_iadd C.1 C.2.1 dL_law_269 ?_
  refine va_sld C.1 C.2.1 hX hbl hbA hW.2 hi1 dL_law_270 ?_
  refine lv_aload_n C.1 C.2.1 dL_law_271 rfl (lv_at hl 3 rfl) ?_
  refine lv_iload_n C.1 C.2.1 dL_law_272 rfl (lv_at hl 0 rfl) ?_
  refine lv_iconst (v := 2) C.1 C.2.1 dL_law_273 (by decide) ?_
  refine lv_iadd C.1 C.2.1 dL_law_274 ?_
  refine va_sld C.1 C.2.1 hX hbl hbA hW.2 hi2 dL_law_275 ?_
  refine lv_aload_n C.1 C.2.1 dL_law_276 rfl (lv_at hl 3 rfl) ?_
  refine lv_iload_n C.1 C.2.1 dL_law_277 rfl (lv_at hl 0 rfl) ?_
  refine lv_iconst (v := 3) C.1 C.2.1 dL_law_278 (by decide) ?_
  refine lv_iadd C.1 C.2.1 dL_law_279 ?_
  refine va_sld C.1 C.2.1 hX hbl hbA hW.2 hi3 dL_law_280 ?_
  refine z_ci hW (z_runV C hW [.int (xs (x3 + 1).toNatClampNeg), .int (xs (x3 + 2).toNatClampNeg), .int (xs (x3 + 3).toNatClampNeg)] [] s11_0.1 s11_0.2.1 kX11.1 kvX11_lay q_380 (tX11_lay l C.2.2.2.2.2.2.1 s11_0 e1) rfl rfl ⟨by decide, by decide⟩ rfl hl.1 rfl (Nat.le_of_ble_eq_true rfl) dL_law_281 hcs) (fun H locs hW => ?_)
  refine lv_aload_n C.1 C.2.1 dL_law_284 rfl (lv_at hl 1 rfl) ?_
  refine lv_aload_n C.1 C.2.1 dL_law_285 rfl (lv_at hl 3 rfl) ?_
  refine lv_iload_n C.1 C.2.1 dL_law_286 rfl (lv_at hl 0 rfl) ?_
  refine lv_iconst (v := 1) C.1 C.2.1 dL_law_287 (by decide) ?_
  refine lv_iadd C.1 C.2.1 dL_law_288 ?_
  refine va_sld C.1 C.2.1 hX hbl hbA hW.2 hi1 dL_law_289 ?_
  refine lv_aload_n C.1 C.2.1 dL_law_290 rfl (lv_at hl 3 rfl) ?_
  refine lv_iload_n C.1 C.2.1 dL_law_291 rfl (lv_at hl 0 rfl) ?_
  refine lv_iconst (v := 2) C.1 C.2.1 dL_law_292 (by decide) ?_
  refine lv_iadd C.1 C.2.1 dL_law_293 ?_
  refine va_sld C.1 C.2.1 hX hbl hbA hW.2 hi2 dL_law_294 ?_
  refine lv_aload_n C.1 C.2.1 dL_law_295 rfl (lv_at hl 3 rfl) ?_
  refine lv_iload_n C.1 C.2.1 dL_law_296 rfl (lv_at hl 0 rfl) ?_
  refine lv_iconst (v := 3) C.1 C.2.1 dL_law_297 (by decide) ?_
  refine lv_iadd C.1 C.2.1 dL_law_298 ?_
  refine va_sld C.1 C.2.1 hX hbl hbA hW.2 hi3 dL_law_299 ?_
  refine z_ci hW (z_runV C hW [.int (xs (x3 + 1).toNatClampNeg), .int (xs (x3 + 2).toNatClampNeg), .int (xs (x3 + 3).toNatClampNeg)] [.int v] s12_175.1 s12_175.2.1 kX12.1 kvX12_lay q_1177 (tX12_lay l C.2.2.2.2.2.2.1 s12_175 e2) rfl rfl ⟨by decide, by decide⟩ rfl hl.1 rfl (Nat.le_of_ble_eq_true rfl) dL_law_300 hcs) (fun H locs hW => ?_)
  exact lv_icmp_eq (tgt := 1573) C.1 C.2.1 dL_law_303 (by decide) (fun _ => kk _ _ _ _ hR hW hl) (fun c => absurd rfl c)
set_option maxRecDepth 100000 in
set_option maxHeartbeats 4000000 in
theorem lc_2 (C : Cx p s m meth c #[Value.ref b] code 4 ret RL D ca ad) (hX : va_X b L xs s s.heap) (hbl : b < s.heap.size) (hbA : ¬ AA ad b) (hcs : 197 + 0 ≤ room_1.cells ∧ 6445 + 0 ≤ room_1.slots) (hi1 : vp_in (x3 + 1) L) (hi2 : vp_in (x3 + 2) L) (hOK : OK_2 N Rel) (hR : Rel mm) (hW : Wd D ca ad s.heap mm H locs) (hl : lv_has ls 4 [(3, .int x3), (2, .ref (ad 175)), (1, .ref (ad 0)), (0, .ref b)]) (kk : ∀ (mm : Mm) (H : Heap) (locs : List Loc) (ls : Array Slot), Rel mm → Wd D ca ad s.heap mm H locs → lv_has ls 4 [(3, .int x3), (2, .ref (ad 175)), (1, .ref (ad 0)), (0, .ref b)] → W p l e room_1 s m #[Value.ref b] below meth c H locs 197 6445 Q (F0 m 1573 ls [])) : W p l e room_1 s m #[Value.ref b] below meth c H locs 197 6445 Q (F0 m 308 ls []) := by
  obtain ⟨v, m1, m2, e1, e2, hR⟩ := hOK (xs (x3 + 1).toNatClampNeg) (xs (x3 + 2).toNatClampNeg) mm hR
  refine lv_aload_n C.1 C.2.1 dL_law_308 rfl (lv_at hl 2 rfl) ?_
  refine lv_aload_n C.1 C.2.1 dL_law_309 rfl (lv_at hl 3 rfl) ?_
  refine lv_iload_n C.1 C.2.1 dL_law_310 rfl (lv_at hl 0 rfl) ?_
  refine lv_iconst (v := 1) C.1 C.2.1 dL_law_311 (by decide) ?_
  refine lv_iadd C.1 C.2.1 dL_law_312 ?_
  refine va_sld C.1 C.2.1 hX hbl hbA hW.2 hi1 dL_law_313 ?_
  refine lv_aload_n C.1 C.2.1 dL_law_314 rfl (lv_at hl 3 rfl) ?_
  refine lv_iload_n C.1 C.2.1 dL_law_315 rfl (lv_at hl 0 rfl) ?_
  refine lv_iconst (v := 2) C.1 C.2.1 dL_law_316 (by decide) ?_
  refine lv_iadd C.1 C.2.1 dL_law_317 ?_
  refine va_sld C.1 C.2.1 hX hbl hbA hW.2 hi2 dL_law_318 ?_
  refine z_ci hW (z_runV C hW [.int (xs (x3 + 1).toNatClampNeg), .int (xs (x3 + 2).toNatClampNeg)] [] s11_0.1 s11_0.2.1 kX11.1 kvX11_at q_396 (tX11_at l C.2.2.2.2.2.2.1 s11_0 e1) rfl rfl ⟨by decide, by decide⟩ rfl hl.1 rfl (Nat.le_of_ble_eq_true rfl) dL_law_319 hcs) (fun H locs hW => ?_)
  refine lv_aload_n C.1 C.2.1 dL_law_322 rfl (lv_at hl 1 rfl) ?_
  refine lv_aload_n C.1 C.2.1 dL_law_323 rfl (lv_at hl 3 rfl) ?_
  refine lv_iload_n C.1 C.2.1 dL_law_324 rfl (lv_at hl 0 rfl) ?_
  refine lv_iconst (v := 1) C.1 C.2.1 dL_law_325 (by decide) ?_
  refine lv_iadd C.1 C.2.1 dL_law_326 ?_
  refine va_sld C.1 C.2.1 hX hbl hbA hW.2 hi1 dL_law_327 ?_
  refine lv_aload_n C.1 C.2.1 dL_law_328 rfl (lv_at hl 3 rfl) ?_
  refine lv_iload_n C.1 C.2.1 dL_law_329 rfl (lv_at hl 0 rfl) ?_
  refine lv_iconst (v := 2) C.1 C.2.1 dL_law_330 (by decide) ?_
  refine lv_iadd C.1 C.2.1 dL_law_331 ?_
  refine va_sld C.1 C.2.1 hX hbl hbA hW.2 hi2 dL_law_332 ?_
  refine z_ci hW (z_runV C hW [.int (xs (x3 + 1).toNatClampNeg), .int (xs (x3 + 2).toNatClampNeg)] [.int v] s12_175.1 s12_175.2.1 kX12.1 kvX12_at q_1161 (tX12_at l C.2.2.2.2.2.2.1 s12_175 e2) rfl rfl ⟨by decide, by decide⟩ rfl hl.1 rfl (Nat.le_of_ble_eq_true rfl) dL_law_333 hcs) (fun H locs hW => ?_)
  exact lv_icmp_eq (tgt := 1573) C.1 C.2.1 dL_law_336 (by decide) (fun _ => kk _ _ _ _ hR hW hl) (fun c => absurd rfl c)
set_option maxRecDepth 100000 in
set_option maxHeartbeats 4000000 in
theorem lc_3 (C : Cx p s m meth c #[Value.ref b] code 4 ret RL D ca ad) (hX : va_X b L xs s s.heap) (hbl : b < s.heap.size) (hbA : ¬ AA ad b) (hcs : 197 + 0 ≤ room_1.cells ∧ 6445 + 0 ≤ room_1.slots) (hi1 : vp_in (x3 + 1) L) (hOK : OK_3 N Rel) (hR : Rel mm) (hW : Wd D ca ad s.heap mm H locs) (hl : lv_has ls 4 [(3, .int x3), (2, .ref (ad 175)), (1, .ref (ad 0)), (0, .ref b)]) (kk : ∀ (mm : Mm) (H : Heap) (locs : List Loc) (ls : Array Slot), Rel mm → Wd D ca ad s.heap mm H locs → lv_has ls 4 [(3, .int x3), (2, .ref (ad 175)), (1, .ref (ad 0)), (0, .ref b)] → W p l e room_1 s m #[Value.ref b] below meth c H locs 197 6445 Q (F0 m 1573 ls [])) : W p l e room_1 s m #[Value.ref b] below meth c H locs 197 6445 Q (F0 m 341 ls []) := by
  obtain ⟨v, m1, m2, e1, e2, hR⟩ := hOK (xs (x3 + 1).toNatClampNeg) mm hR
  refine lv_aload_n C.1 C.2.1 dL_law_341 rfl (lv_at hl 2 rfl) ?_
  refine lv_aload_n C.1 C.2.1 dL_law_342 rfl (lv_at hl 3 rfl) ?_
  refine lv_iload_n C.1 C.2.1 dL_law_343 rfl (lv_at hl 0 rfl) ?_
  refine lv_iconst (v := 1) C.1 C.2.1 dL_law_344 (by decide) ?_
  refine lv_iadd C.1 C.2.1 dL_law_345 ?_
  refine va_sld C.1 C.2.1 hX hbl hbA hW.2 hi1 dL_law_346 ?_
  refine z_ci hW (z_runV C hW [.int (xs (x3 + 1).toNatClampNeg)] [] s11_0.1 s11_0.2.1 kX11.1 kvX11_tear q_400 (tX11_tear l C.2.2.2.2.2.2.1 s11_0 e1) rfl rfl ⟨by decide, by decide⟩ rfl hl.1 rfl (Nat.le_of_ble_eq_true rfl) dL_law_347 hcs) (fun H locs hW => ?_)
  refine lv_aload_n C.1 C.2.1 dL_law_350 rfl (lv_at hl 1 rfl) ?_
  refine lv_aload_n C.1 C.2.1 dL_law_351 rfl (lv_at hl 3 rfl) ?_
  refine lv_iload_n C.1 C.2.1 dL_law_352 rfl (lv_at hl 0 rfl) ?_
  refine lv_iconst (v := 1) C.1 C.2.1 dL_law_353 (by decide) ?_
  refine lv_iadd C.1 C.2.1 dL_law_354 ?_
  refine va_sld C.1 C.2.1 hX hbl hbA hW.2 hi1 dL_law_355 ?_
  refine z_ci hW (z_runV C hW [.int (xs (x3 + 1).toNatClampNeg)] [.int v] s12_175.1 s12_175.2.1 kX12.1 kvX12_tear q_1182 (tX12_tear l C.2.2.2.2.2.2.1 s12_175 e2) rfl rfl ⟨by decide, by decide⟩ rfl hl.1 rfl (Nat.le_of_ble_eq_true rfl) dL_law_356 hcs) (fun H locs hW => ?_)
  exact lv_icmp_eq (tgt := 1573) C.1 C.2.1 dL_law_359 (by decide) (fun _ => kk _ _ _ _ hR hW hl) (fun c => absurd rfl c)
set_option maxRecDepth 100000 in
set_option maxHeartbeats 4000000 in
theorem lc_4 (C : Cx p s m meth c #[Value.ref b] code 4 ret RL D ca ad) (hX : va_X b L xs s s.heap) (hbl : b < s.heap.size) (hbA : ¬ AA ad b) (hcs : 197 + 0 ≤ room_1.cells ∧ 6445 + 0 ≤ room_1.slots) (hi1 : vp_in (x3 + 1) L) (hi2 : vp_in (x3 + 2) L) (hi3 : vp_in (x3 + 3) L) (hi4 : vp_in (x3 + 4) L) (hi5 : vp_in (x3 + 5) L) (hOK : OK_4 N Rel) (hR : Rel mm) (hW : Wd D ca ad s.heap mm H locs) (hl : lv_has ls 4 [(3, .int x3), (2, .ref (ad 175)), (1, .ref (ad 0)), (0, .ref b)]) (kk : ∀ (mm : Mm) (H : Heap) (locs : List Loc) (ls : Array Slot), Rel mm → Wd D ca ad s.heap mm H locs → lv_has ls 4 [(3, .int x3), (2, .ref (ad 175)), (1, .ref (ad 0)), (0, .ref b)] → W p l e room_1 s m #[Value.ref b] below meth c H locs 197 6445 Q (F0 m 1573 ls [])) : W p l e room_1 s m #[Value.ref b] below meth c H locs 197 6445 Q (F0 m 364 ls []) := by
  obtain ⟨v, m1, m2, e1, e2, hR⟩ := hOK (xs (x3 + 1).toNatClampNeg) (xs (x3 + 2).toNatClampNeg) (xs (x3 + 3).toNatClampNeg) (xs (x3 + 4).toNatClampNeg) (xs (x3 + 5).toNatClampNeg) mm hR
  refine lv_aload_n C.1 C.2.1 dL_law_364 rfl (lv_at hl 2 rfl) ?_
  refine lv_aload_n C.1 C.2.1 dL_law_365 rfl (lv_at hl 3 rfl) ?_
  refine lv_iload_n C.1 C.2.1 dL_law_366 rfl (lv_at hl 0 rfl) ?_
  refine lv_iconst (v := 1) C.1 C.2.1 dL_law_367 (by decide) ?_
  refine lv_iadd C.1 C.2.1 dL_law_368 ?_
  refine va_sld C.1 C.2.1 hX hbl hbA hW.2 hi1 dL_law_369 ?_
  refine lv_aload_n C.1 C.2.1 dL_law_370 rfl (lv_at hl 3 rfl) ?_
  refine lv_iload_n C.1 C.2.1 dL_law_371 rfl (lv_at hl 0 rfl) ?_
  refine lv_iconst (v := 2) C.1 C.2.1 dL_law_372 (by decide) ?_
  refine lv_iadd C.1 C.2.1 dL_law_373 ?_
  refine va_sld C.1 C.2.1 hX hbl hbA hW.2 hi2 dL_law_374 ?_
  refine lv_aload_n C.1 C.2.1 dL_law_375 rfl (lv_at hl 3 rfl) ?_
  refine lv_iload_n C.1 C.2.1 dL_law_376 rfl (lv_at hl 0 rfl) ?_
  refine lv_iconst (v := 3) C.1 C.2.1 dL_law_377 (by decide) ?_
  refine lv_iadd C.1 C.2.1 dL_law_378 ?_
  refine va_sld C.1 C.2.1 hX hbl hbA hW.2 hi3 dL_law_379 ?_
  refine lv_aload_n C.1 C.2.1 dL_law_380 rfl (lv_at hl 3 rfl) ?_
  refine lv_iload_n C.1 C.2.1 dL_law_381 rfl (lv_at hl 0 rfl) ?_
  refine lv_iconst (v := 4) C.1 C.2.1 dL_law_382 (by decide) ?_
  refine lv_iadd C.1 C.2.1 dL_law_383 ?_
  refine va_sld C.1 C.2.1 hX hbl hbA hW.2 hi4 dL_law_384 ?_
  refine lv_aload_n C.1 C.2.1 dL_law_385 rfl (lv_at hl 3 rfl) ?_
  refine lv_iload_n C.1 C.2.1 dL_law_386 rfl (lv_at hl 0 rfl) ?_
  refine lv_iconst (v := 5) C.1 C.2.1 dL_law_387 (by decide) ?_
  refine lv_iadd C.1 C.2.1 dL_law_388 ?_
  refine va_sld C.1 C.2.1 hX hbl hbA hW.2 hi5 dL_law_389 ?_
  refine z_ci hW (z_runV C hW [.int (xs (x3 + 1).toNatClampNeg), .int (xs (x3 + 2).toNatClampNeg), .int (xs (x3 + 3).toNatClampNeg), .int (xs (x3 + 4).toNatClampNeg), .int (xs (x3 + 5).toNatClampNeg)] [] s11_0.1 s11_0.2.1 kX11.1 kvX11_copy q_404 (tX11_copy l C.2.2.2.2.2.2.1 s11_0 e1) rfl rfl ⟨by decide, by decide⟩ rfl hl.1 rfl (Nat.le_of_ble_eq_true rfl) dL_law_390 hcs) (fun H locs hW => ?_)
  refine lv_aload_n C.1 C.2.1 dL_law_393 rfl (lv_at hl 1 rfl) ?_
  refine lv_aload_n C.1 C.2.1 dL_law_394 rfl (lv_at hl 3 rfl) ?_
  refine lv_iload_n C.1 C.2.1 dL_law_395 rfl (lv_at hl 0 rfl) ?_
  refine lv_iconst (v := 1) C.1 C.2.1 dL_law_396 (by decide) ?_
  refine lv_iadd C.1 C.2.1 dL_law_397 ?_
  refine va_sld C.1 C.2.1 hX hbl hbA hW.2 hi1 dL_law_398 ?_
  refine lv_aload_n C.1 C.2.1 dL_law_399 rfl (lv_at hl 3 rfl) ?_
  refine lv_iload_n C.1 C.2.1 dL_law_400 rfl (lv_at hl 0 rfl) ?_
  refine lv_iconst (v := 2) C.1 C.2.1 dL_law_401 (by decide) ?_
  refine lv_iadd C.1 C.2.1 dL_law_402 ?_
  refine va_sld C.1 C.2.1 hX hbl hbA hW.2 hi2 dL_law_403 ?_
  refine lv_aload_n C.1 C.2.1 dL_law_404 rfl (lv_at hl 3 rfl) ?_
  refine lv_iload_n C.1 C.2.1 dL_law_405 rfl (lv_at hl 0 rfl) ?_
  refine lv_iconst (v := 3) C.1 C.2.1 dL_law_406 (by decide) ?_
  refine lv_iadd C.1 C.2.1 dL_law_407 ?_
  refine va_sld C.1 C.2.1 hX hbl hbA hW.2 hi3 dL_law_408 ?_
  refine lv_aload_n C.1 C.2.1 dL_law_409 rfl (lv_at hl 3 rfl) ?_
  refine lv_iload_n C.1 C.2.1 dL_law_410 rfl (lv_at hl 0 rfl) ?_
  refine lv_iconst (v := 4) C.1 C.2.1 dL_law_411 (by decide) ?_
  refine lv_iadd C.1 C.2.1 dL_law_412 ?_
  refine va_sld C.1 C.2.1 hX hbl hbA hW.2 hi4 dL_law_413 ?_
  refine lv_aload_n C.1 C.2.1 dL_law_414 rfl (lv_at hl 3 rfl) ?_
  refine lv_iload_n C.1 C.2.1 dL_law_415 rfl (lv_at hl 0 rfl) ?_
  refine lv_iconst (v := 5) C.1 C.2.1 dL_law_416 (by decide) ?_
  refine lv_iadd C.1 C.2.1 dL_law_417 ?_
  refine va_sld C.1 C.2.1 hX hbl hbA hW.2 hi5 dL_law_418 ?_
  refine z_ci hW (z_runV C hW [.int (xs (x3 + 1).toNatClampNeg), .int (xs (x3 + 2).toNatClampNeg), .int (xs (x3 + 3).toNatClampNeg), .int (xs (x3 + 4).toNatClampNeg), .int (xs (x3 + 5).toNatClampNeg)] [.int v] s12_175.1 s12_175.2.1 kX12.1 kvX12_copy q_1186 (tX12_copy l C.2.2.2.2.2.2.1 s12_175 e2) rfl rfl ⟨by decide, by decide⟩ rfl hl.1 rfl (Nat.le_of_ble_eq_true rfl) dL_law_419 hcs) (fun H locs hW => ?_)
  exact lv_icmp_eq (tgt := 1573) C.1 C.2.1 dL_law_422 (by decide) (fun _ => kk _ _ _ _ hR hW hl) (fun c => absurd rfl c)
set_option maxRecDepth 100000 in
set_option maxHeartbeats 4000000 in
theorem lc_5 (C : Cx p s m meth c #[Value.ref b] code 4 ret RL D ca ad) (hX : va_X b L xs s s.heap) (hbl : b < s.heap.size) (hbA : ¬ AA ad b) (hcs : 197 + 0 ≤ room_1.cells ∧ 6445 + 0 ≤ room_1.slots) (hi1 : vp_in (x3 + 1) L) (hOK : OK_5 N Rel) (hR : Rel mm) (hW : Wd D ca ad s.heap mm H locs) (hl : lv_has ls 4 [(3, .int x3), (2, .ref (ad 175)), (1, .ref (ad 0)), (0, .ref b)]) (kk : ∀ (mm : Mm) (H : Heap) (locs : List Loc) (ls : Array Slot), Rel mm → Wd D ca ad s.heap mm H locs → lv_has ls 4 [(3, .int x3), (2, .ref (ad 175)), (1, .ref (ad 0)), (0, .ref b)] → W p l e room_1 s m #[Value.ref b] below meth c H locs 197 6445 Q (F0 m 1573 ls [])) : W p l e room_1 s m #[Value.ref b] below meth c H locs 197 6445 Q (F0 m 427 ls []) := by
  obtain ⟨v, m1, m2, e1, e2, hR⟩ := hOK (xs (x3 + 1).toNatClampNeg) mm hR
  refine lv_aload_n C.1 C.2.1 dL_law_427 rfl (lv_at hl 2 rfl) ?_
  refine lv_aload_n C.1 C.2.1 dL_law_428 rfl (lv_at hl 3 rfl) ?_
  refine lv_iload_n C.1 C.2.1 dL_law_429 rfl (lv_at hl 0 rfl) ?_
  refine lv_iconst (v := 1) C.1 C.2.1 dL_law_430 (by decide) ?_
  refine lv_iadd C.1 C.2.1 dL_law_431 ?_
  refine va_sld C.1 C.2.1 hX hbl hbA hW.2 hi1 dL_law_432 ?_
  refine z_ci hW (z_runV C hW [.int (xs (x3 + 1).toNatClampNeg)] [] s11_0.1 s11_0.2.1 kX11.1 kvX11_mean q_415 (tX11_mean l C.2.2.2.2.2.2.1 s11_0 e1) rfl rfl ⟨by decide, by decide⟩ rfl hl.1 rfl (Nat.le_of_ble_eq_true rfl) dL_law_433 hcs) (fun H locs hW => ?_)
  refine lv_aload_n C.1 C.2.1 dL_law_436 rfl (lv_at hl 1 rfl) ?_
  refine lv_aload_n C.1 C.2.1 dL_law_437 rfl (lv_at hl 3 rfl) ?_
  refine lv_iload_n C.1 C.2.1 dL_law_438 rfl (lv_at hl 0 rfl) ?_
  refine lv_iconst (v := 1) C.1 C.2.1 dL_law_439 (by decide) ?_
  refine lv_iadd C.1 C.2.1 dL_law_440 ?_
  refine va_sld C.1 C.2.1 hX hbl hbA hW.2 hi1 dL_law_441 ?_
  refine z_ci hW (z_runV C hW [.int (xs (x3 + 1).toNatClampNeg)] [.int v] s12_175.1 s12_175.2.1 kX12.1 kvX12_mean q_1190 (tX12_mean l C.2.2.2.2.2.2.1 s12_175 e2) rfl rfl ⟨by decide, by decide⟩ rfl hl.1 rfl (Nat.le_of_ble_eq_true rfl) dL_law_442 hcs) (fun H locs hW => ?_)
  exact lv_icmp_eq (tgt := 1573) C.1 C.2.1 dL_law_445 (by decide) (fun _ => kk _ _ _ _ hR hW hl) (fun c => absurd rfl c)
set_option maxRecDepth 100000 in
set_option maxHeartbeats 4000000 in
theorem lc_6 (C : Cx p s m meth c #[Value.ref b] code 4 ret RL D ca ad) (hX : va_X b L xs s s.heap) (hbl : b < s.heap.size) (hbA : ¬ AA ad b) (hcs : 197 + 0 ≤ room_1.cells ∧ 6445 + 0 ≤ room_1.slots) (hi1 : vp_in (x3 + 1) L) (hi2 : vp_in (x3 + 2) L) (hOK : OK_6 N Rel) (hR : Rel mm) (hW : Wd D ca ad s.heap mm H locs) (hl : lv_has ls 4 [(3, .int x3), (2, .ref (ad 175)), (1, .ref (ad 0)), (0, .ref b)]) (kk : ∀ (mm : Mm) (H : Heap) (locs : List Loc) (ls : Array Slot), Rel mm → Wd D ca ad s.heap mm H locs → lv_has ls 4 [(3, .int x3), (2, .ref (ad 175)), (1, .ref (ad 0)), (0, .ref b)] → W p l e room_1 s m #[Value.ref b] below meth c H locs 197 6445 Q (F0 m 1573 ls [])) : W p l e room_1 s m #[Value.ref b] below meth c H locs 197 6445 Q (F0 m 450 ls []) := by
  obtain ⟨v, m1, m2, e1, e2, hR⟩ := hOK (xs (x3 + 1).toNatClampNeg) (xs (x3 + 2).toNatClampNeg) mm hR
  refine lv_aload_n C.1 C.2.1 dL_law_450 rfl (lv_at hl 2 rfl) ?_
  refine lv_aload_n C.1 C.2.1 dL_law_451 rfl (lv_at hl 3 rfl) ?_
  refine lv_iload_n C.1 C.2.1 dL_law_452 rfl (lv_at hl 0 rfl) ?_
  refine lv_iconst (v := 1) C.1 C.2.1 dL_law_453 (by decide) ?_
  refine lv_iadd C.1 C.2.1 dL_law_454 ?_
  refine va_sld C.1 C.2.1 hX hbl hbA hW.2 hi1 dL_law_455 ?_
  refine lv_aload_n C.1 C.2.1 dL_law_456 rfl (lv_at hl 3 rfl) ?_
  refine lv_iload_n C.1 C.2.1 dL_law_457 rfl (lv_at hl 0 rfl) ?_
  refine lv_iconst (v := 2) C.1 C.2.1 dL_law_458 (by decide) ?_
  refine lv_iadd C.1 C.2.1 dL_law_459 ?_
  refine va_sld C.1 C.2.1 hX hbl hbA hW.2 hi2 dL_law_460 ?_
  refine z_ci hW (z_runV C hW [.int (xs (x3 + 1).toNatClampNeg), .int (xs (x3 + 2).toNatClampNeg)] [] s11_0.1 s11_0.2.1 kX11.1 kvX11_text q_423 (tX11_text l C.2.2.2.2.2.2.1 s11_0 e1) rfl rfl ⟨by decide, by decide⟩ rfl hl.1 rfl (Nat.le_of_ble_eq_true rfl) dL_law_461 hcs) (fun H locs hW => ?_)
  refine lv_aload_n C.1 C.2.1 dL_law_464 rfl (lv_at hl 1 rfl) ?_
  refine lv_aload_n C.1 C.2.1 dL_law_465 rfl (lv_at hl 3 rfl) ?_
  refine lv_iload_n C.1 C.2.1 dL_law_466 rfl (lv_at hl 0 rfl) ?_
  refine lv_iconst (v := 1) C.1 C.2.1 dL_law_467 (by decide) ?_
  refine lv_iadd C.1 C.2.1 dL_law_468 ?_
  refine va_sld C.1 C.2.1 hX hbl hbA hW.2 hi1 dL_law_469 ?_
  refine lv_aload_n C.1 C.2.1 dL_law_470 rfl (lv_at hl 3 rfl) ?_
  refine lv_iload_n C.1 C.2.1 dL_law_471 rfl (lv_at hl 0 rfl) ?_
  refine lv_iconst (v := 2) C.1 C.2.1 dL_law_472 (by decide) ?_
  refine lv_iadd C.1 C.2.1 dL_law_473 ?_
  refine va_sld C.1 C.2.1 hX hbl hbA hW.2 hi2 dL_law_474 ?_
  refine z_ci hW (z_runV C hW [.int (xs (x3 + 1).toNatClampNeg), .int (xs (x3 + 2).toNatClampNeg)] [.int v] s12_175.1 s12_175.2.1 kX12.1 kvX12_text q_1194 (tX12_text l C.2.2.2.2.2.2.1 s12_175 e2) rfl rfl ⟨by decide, by decide⟩ rfl hl.1 rfl (Nat.le_of_ble_eq_true rfl) dL_law_475 hcs) (fun H locs hW => ?_)
  exact lv_icmp_eq (tgt := 1573) C.1 C.2.1 dL_law_478 (by decide) (fun _ => kk _ _ _ _ hR hW hl) (fun c => absurd rfl c)
set_option maxRecDepth 100000 in
set_option maxHeartbeats 4000000 in
theorem lc_7 (C : Cx p s m meth c #[Value.ref b] code 4 ret RL D ca ad) (hX : va_X b L xs s s.heap) (hbl : b < s.heap.size) (hbA : ¬ AA ad b) (hcs : 197 + 0 ≤ room_1.cells ∧ 6445 + 0 ≤ room_1.slots) (hi1 : vp_in (x3 + 1) L) (hi2 : vp_in (x3 + 2) L) (hi3 : vp_in (x3 + 3) L) (hOK : OK_7 N Rel) (hR : Rel mm) (hW : Wd D ca ad s.heap mm H locs) (hl : lv_has ls 4 [(3, .int x3), (2, .ref (ad 175)), (1, .ref (ad 0)), (0, .ref b)]) (kk : ∀ (mm : Mm) (H : Heap) (locs : List Loc) (ls : Array Slot), Rel mm → Wd D ca ad s.heap mm H locs → lv_has ls 4 [(3, .int x3), (2, .ref (ad 175)), (1, .ref (ad 0)), (0, .ref b)] → W p l e room_1 s m #[Value.ref b] below meth c H locs 197 6445 Q (F0 m 1573 ls [])) : W p l e room_1 s m #[Value.ref b] below meth c H locs 197 6445 Q (F0 m 483 ls []) := by
  obtain ⟨v, m1, m2, e1, e2, hR⟩ := hOK (xs (x3 + 1).toNatClampNeg) (xs (x3 + 2).toNatClampNeg) (xs (x3 + 3).toNatClampNeg) mm hR
  refine lv_aload_n C.1 C.2.1 dL_law_483 rfl (lv_at hl 2 rfl) ?_
  refine lv_aload_n C.1 C.2.1 dL_law_484 rfl (lv_at hl 3 rfl) ?_
  refine lv_iload_n C.1 C.2.1 dL_law_485 rfl (lv_at hl 0 rfl) ?_
  refine lv_iconst (v := 1) C.1 C.2.1 dL_law_486 (by decide) ?_
  refine lv_iadd C.1 C.2.1 dL_law_487 ?_
  refine va_sld C.1 C.2.1 hX hbl hbA hW.2 hi1 dL_law_488 ?_
  refine lv_aload_n C.1 C.2.1 dL_law_489 rfl (lv_at hl 3 rfl) ?_
  refine lv_iload_n C.1 C.2.1 dL_law_490 rfl (lv_at hl 0 rfl) ?_
  refine lv_iconst (v := 2) C.1 C.2.1 dL_law_491 (by decide) ?_
  refine lv_iadd C.1 C.2.1 dL_law_492 ?_
  refine va_sld C.1 C.2.1 hX hbl hbA hW.2 hi2 dL_law_493 ?_
  refine lv_aload_n C.1 C.2.1 dL_law_494 rfl (lv_at hl 3 rfl) ?_
  refine lv_iload_n C.1 C.2.1 dL_law_495 rfl (lv_at hl 0 rfl) ?_
  refine lv_iconst (v := 3) C.1 C.2.1 dL_law_496 (by decide) ?_
  refine lv_iadd C.1 C.2.1 dL_law_497 ?_
  refine va_sld C.1 C.2.1 hX hbl hbA hW.2 hi3 dL_law_498 ?_
  refine z_ci hW (z_runV C hW [.int (xs (x3 + 1).toNatClampNeg), .int (xs (x3 + 2).toNatClampNeg), .int (xs (x3 + 3).toNatClampNeg)] [] s11_0.1 s11_0.2.1 kX11.1 kvX11_put q_431 (tX11_put l C.2.2.2.2.2.2.1 s11_0 e1) rfl rfl ⟨by decide, by decide⟩ rfl hl.1 rfl (Nat.le_of_ble_eq_true rfl) dL_law_499 hcs) (fun H locs hW => ?_)
  refine lv_aload_n C.1 C.2.1 dL_law_502 rfl (lv_at hl 1 rfl) ?_
  refine lv_aload_n C.1 C.2.1 dL_law_503 rfl (lv_at hl 3 rfl) ?_
  refine lv_iload_n C.1 C.2.1 dL_law_504 rfl (lv_at hl 0 rfl) ?_
  refine lv_iconst (v := 1) C.1 C.2.1 dL_law_505 (by decide) ?_
  refine lv_iadd C.1 C.2.1 dL_law_506 ?_
  refine va_sld C.1 C.2.1 hX hbl hbA hW.2 hi1 dL_law_507 ?_
  refine lv_aload_n C.1 C.2.1 dL_law_508 rfl (lv_at hl 3 rfl) ?_
  refine lv_iload_n C.1 C.2.1 dL_law_509 rfl (lv_at hl 0 rfl) ?_
  refine lv_iconst (v := 2) C.1 C.2.1 dL_law_510 (by decide) ?_
  refine lv_iadd C.1 C.2.1 dL_law_511 ?_
  refine va_sld C.1 C.2.1 hX hbl hbA hW.2 hi2 dL_law_512 ?_
  refine lv_aload_n C.1 C.2.1 dL_law_513 rfl (lv_at hl 3 rfl) ?_
  refine lv_iload_n C.1 C.2.1 dL_law_514 rfl (lv_at hl 0 rfl) ?_
  refine lv_iconst (v := 3) C.1 C.2.1 dL_law_515 (by decide) ?_
  refine lv_iadd C.1 C.2.1 dL_law_516 ?_
  refine va_sld C.1 C.2.1 hX hbl hbA hW.2 hi3 dL_law_517 ?_
  refine z_ci hW (z_runV C hW [.int (xs (x3 + 1).toNatClampNeg), .int (xs (x3 + 2).toNatClampNeg), .int (xs (x3 + 3).toNatClampNeg)] [.int v] s12_175.1 s12_175.2.1 kX12.1 kvX12_put q_1201 (tX12_put l C.2.2.2.2.2.2.1 s12_175 e2) rfl rfl ⟨by decide, by decide⟩ rfl hl.1 rfl (Nat.le_of_ble_eq_true rfl) dL_law_518 hcs) (fun H locs hW => ?_)
  exact lv_icmp_eq (tgt := 1573) C.1 C.2.1 dL_law_521 (by decide) (fun _ => kk _ _ _ _ hR hW hl) (fun c => absurd rfl c)
set_option maxRecDepth 100000 in
set_option maxHeartbeats 4000000 in
theorem lc_8 (C : Cx p s m meth c #[Value.ref b] code 4 ret RL D ca ad) (hX : va_X b L xs s s.heap) (hbl : b < s.heap.size) (hbA : ¬ AA ad b) (hcs : 197 + 0 ≤ room_1.cells ∧ 6445 + 0 ≤ room_1.slots) (hi1 : vp_in (x3 + 1) L) (hOK : OK_8 N Rel) (hR : Rel mm) (hW : Wd D ca ad s.heap mm H locs) (hl : lv_has ls 4 [(3, .int x3), (2, .ref (ad 175)), (1, .ref (ad 0)), (0, .ref b)]) (kk : ∀ (mm : Mm) (H : Heap) (locs : List Loc) (ls : Array Slot), Rel mm → Wd D ca ad s.heap mm H locs → lv_has ls 4 [(3, .int x3), (2, .ref (ad 175)), (1, .ref (ad 0)), (0, .ref b)] → W p l e room_1 s m #[Value.ref b] below meth c H locs 197 6445 Q (F0 m 1573 ls [])) : W p l e room_1 s m #[Value.ref b] below meth c H locs 197 6445 Q (F0 m 526 ls []) := by
  obtain ⟨v, m1, m2, e1, e2, hR⟩ := hOK (xs (x3 + 1).toNatClampNeg) mm hR
  refine lv_aload_n C.1 C.2.1 dL_law_526 rfl (lv_at hl 2 rfl) ?_
  refine lv_aload_n C.1 C.2.1 dL_law_527 rfl (lv_at hl 3 rfl) ?_
  refine lv_iload_n C.1 C.2.1 dL_law_528 rfl (lv_at hl 0 rfl) ?_
  refine lv_iconst (v := 1) C.1 C.2.1 dL_law_529 (by decide) ?_
  refine lv_iadd C.1 C.2.1 dL_law_530 ?_
  refine va_sld C.1 C.2.1 hX hbl hbA hW.2 hi1 dL_law_531 ?_
  refine z_ci hW (z_runV C hW [.int (xs (x3 + 1).toNatClampNeg)] [] s11_0.1 s11_0.2.1 kX11.1 kvX11_fault q_435 (tX11_fault l C.2.2.2.2.2.2.1 s11_0 e1) rfl rfl ⟨by decide, by decide⟩ rfl hl.1 rfl (Nat.le_of_ble_eq_true rfl) dL_law_532 hcs) (fun H locs hW => ?_)
  refine lv_aload_n C.1 C.2.1 dL_law_535 rfl (lv_at hl 1 rfl) ?_
  refine lv_aload_n C.1 C.2.1 dL_law_536 rfl (lv_at hl 3 rfl) ?_
  refine lv_iload_n C.1 C.2.1 dL_law_537 rfl (lv_at hl 0 rfl) ?_
  refine lv_iconst (v := 1) C.1 C.2.1 dL_law_538 (by decide) ?_
  refine lv_iadd C.1 C.2.1 dL_law_539 ?_
  refine va_sld C.1 C.2.1 hX hbl hbA hW.2 hi1 dL_law_540 ?_
  refine z_ci hW (z_runV C hW [.int (xs (x3 + 1).toNatClampNeg)] [.int v] s12_175.1 s12_175.2.1 kX12.1 kvX12_fault q_1209 (tX12_fault l C.2.2.2.2.2.2.1 s12_175 e2) rfl rfl ⟨by decide, by decide⟩ rfl hl.1 rfl (Nat.le_of_ble_eq_true rfl) dL_law_541 hcs) (fun H locs hW => ?_)
  exact lv_icmp_eq (tgt := 1573) C.1 C.2.1 dL_law_544 (by decide) (fun _ => kk _ _ _ _ hR hW hl) (fun c => absurd rfl c)
set_option maxRecDepth 100000 in
set_option maxHeartbeats 4000000 in
theorem lc_9 (C : Cx p s m meth c #[Value.ref b] code 4 ret RL D ca ad) (hX : va_X b L xs s s.heap) (hbl : b < s.heap.size) (hbA : ¬ AA ad b) (hcs : 197 + 0 ≤ room_1.cells ∧ 6445 + 0 ≤ room_1.slots) (hi1 : vp_in (x3 + 1) L) (hOK : OK_9 N Rel) (hR : Rel mm) (hW : Wd D ca ad s.heap mm H locs) (hl : lv_has ls 4 [(3, .int x3), (2, .ref (ad 175)), (1, .ref (ad 0)), (0, .ref b)]) (kk : ∀ (mm : Mm) (H : Heap) (locs : List Loc) (ls : Array Slot), Rel mm → Wd D ca ad s.heap mm H locs → lv_has ls 4 [(3, .int x3), (2, .ref (ad 175)), (1, .ref (ad 0)), (0, .ref b)] → W p l e room_1 s m #[Value.ref b] below meth c H locs 197 6445 Q (F0 m 1573 ls [])) : W p l e room_1 s m #[Value.ref b] below meth c H locs 197 6445 Q (F0 m 549 ls []) := by
  obtain ⟨v, m1, m2, e1, e2, hR⟩ := hOK (xs (x3 + 1).toNatClampNeg) mm hR
  refine lv_aload_n C.1 C.2.1 dL_law_549 rfl (lv_at hl 2 rfl) ?_
  refine lv_aload_n C.1 C.2.1 dL_law_550 rfl (lv_at hl 3 rfl) ?_
  refine lv_iload_n C.1 C.2.1 dL_law_551 rfl (lv_at hl 0 rfl) ?_
  refine lv_iconst (v := 1) C.1 C.2.1 dL_law_552 (by decide) ?_
  refine lv_iadd C.1 C.2.1 dL_law_553 ?_
  refine va_sld C.1 C.2.1 hX hbl hbA hW.2 hi1 dL_law_554 ?_
  refine z_ci hW (z_runV C hW [.int (xs (x3 + 1).toNatClampNeg)] [] s11_0.1 s11_0.2.1 kX11.1 kvX11_court q_471 (tX11_court l C.2.2.2.2.2.2.1 s11_0 e1) rfl rfl ⟨by decide, by decide⟩ rfl hl.1 rfl (Nat.le_of_ble_eq_true rfl) dL_law_555 hcs) (fun H locs hW => ?_)
  refine lv_aload_n C.1 C.2.1 dL_law_558 rfl (lv_at hl 1 rfl) ?_
  refine lv_aload_n C.1 C.2.1 dL_law_559 rfl (lv_at hl 3 rfl) ?_
  refine lv_iload_n C.1 C.2.1 dL_law_560 rfl (lv_at hl 0 rfl) ?_
  refine lv_iconst (v := 1) C.1 C.2.1 dL_law_561 (by decide) ?_
  refine lv_iadd C.1 C.2.1 dL_law_562 ?_
  refine va_sld C.1 C.2.1 hX hbl hbA hW.2 hi1 dL_law_563 ?_
  refine z_ci hW (z_runV C hW [.int (xs (x3 + 1).toNatClampNeg)] [.int v] s12_175.1 s12_175.2.1 kX12.1 kvX12_court q_1240 (tX12_court l C.2.2.2.2.2.2.1 s12_175 e2) rfl rfl ⟨by decide, by decide⟩ rfl hl.1 rfl (Nat.le_of_ble_eq_true rfl) dL_law_564 hcs) (fun H locs hW => ?_)
  exact lv_icmp_eq (tgt := 1573) C.1 C.2.1 dL_law_567 (by decide) (fun _ => kk _ _ _ _ hR hW hl) (fun c => absurd rfl c)
set_option maxRecDepth 100000 in
set_option maxHeartbeats 4000000 in
theorem lc_10 (C : Cx p s m meth c #[Value.ref b] code 4 ret RL D ca ad) (hX : va_X b L xs s s.heap) (hbl : b < s.heap.size) (hbA : ¬ AA ad b) (hcs : 197 + 0 ≤ room_1.cells ∧ 6445 + 0 ≤ room_1.slots) (hi1 : vp_in (x3 + 1) L) (hi2 : vp_in (x3 + 2) L) (hOK : OK_10 N Rel) (hR : Rel mm) (hW : Wd D ca ad s.heap mm H locs) (hl : lv_has ls 4 [(3, .int x3), (2, .ref (ad 175)), (1, .ref (ad 0)), (0, .ref b)]) (kk : ∀ (mm : Mm) (H : Heap) (locs : List Loc) (ls : Array Slot), Rel mm → Wd D ca ad s.heap mm H locs → lv_has ls 4 [(3, .int x3), (2, .ref (ad 175)), (1, .ref (ad 0)), (0, .ref b)] → W p l e room_1 s m #[Value.ref b] below meth c H locs 197 6445 Q (F0 m 1573 ls [])) : W p l e room_1 s m #[Value.ref b] below meth c H locs 197 6445 Q (F0 m 572 ls []) := by
  obtain ⟨v, m1, m2, e1, e2, hR⟩ := hOK (xs (x3 + 1).toNatClampNeg) (xs (x3 + 2).toNatClampNeg) mm hR
  refine lv_aload_n C.1 C.2.1 dL_law_572 rfl (lv_at hl 2 rfl) ?_
  refine lv_aload_n C.1 C.2.1 dL_law_573 rfl (lv_at hl 3 rfl) ?_
  refine lv_iload_n C.1 C.2.1 dL_law_574 rfl (lv_at hl 0 rfl) ?_
  refine lv_iconst (v := 1) C.1 C.2.1 dL_law_575 (by decide) ?_
  refine lv_iadd C.1 C.2.1 dL_law_576 ?_
  refine va_sld C.1 C.2.1 hX hbl hbA hW.2 hi1 dL_law_577 ?_
  refine lv_aload_n C.1 C.2.1 dL_law_578 rfl (lv_at hl 3 rfl) ?_
  refine lv_iload_n C.1 C.2.1 dL_law_579 rfl (lv_at hl 0 rfl) ?_
  refine lv_iconst (v := 2) C.1 C.2.1 dL_law_580 (by decide) ?_
  refine lv_iadd C.1 C.2.1 dL_law_581 ?_
  refine va_sld C.1 C.2.1 hX hbl hbA hW.2 hi2 dL_law_582 ?_
  refine z_ci hW (z_runV C hW [.int (xs (x3 + 1).toNatClampNeg), .int (xs (x3 + 2).toNatClampNeg)] [] s11_0.1 s11_0.2.1 kX11.1 kvX11_suit q_489 (tX11_suit l C.2.2.2.2.2.2.1 s11_0 e1) rfl rfl ⟨by decide, by decide⟩ rfl hl.1 rfl (Nat.le_of_ble_eq_true rfl) dL_law_583 hcs) (fun H locs hW => ?_)
  refine lv_aload_n C.1 C.2.1 dL_law_586 rfl (lv_at hl 1 rfl) ?_
  refine lv_aload_n C.1 C.2.1 dL_law_587 rfl (lv_at hl 3 rfl) ?_
  refine lv_iload_n C.1 C.2.1 dL_law_588 rfl (lv_at hl 0 rfl) ?_
  refine lv_iconst (v := 1) C.1 C.2.1 dL_law_589 (by decide) ?_
  refine lv_iadd C.1 C.2.1 dL_law_590 ?_
  refine va_sld C.1 C.2.1 hX hbl hbA hW.2 hi1 dL_law_591 ?_
  refine lv_aload_n C.1 C.2.1 dL_law_592 rfl (lv_at hl 3 rfl) ?_
  refine lv_iload_n C.1 C.2.1 dL_law_593 rfl (lv_at hl 0 rfl) ?_
  refine lv_iconst (v := 2) C.1 C.2.1 dL_law_594 (by decide) ?_
  refine lv_iadd C.1 C.2.1 dL_law_595 ?_
  refine va_sld C.1 C.2.1 hX hbl hbA hW.2 hi2 dL_law_596 ?_
  refine z_ci hW (z_runV C hW [.int (xs (x3 + 1).toNatClampNeg), .int (xs (x3 + 2).toNatClampNeg)] [.int v] s12_175.1 s12_175.2.1 kX12.1 kvX12_suit q_1244 (tX12_suit l C.2.2.2.2.2.2.1 s12_175 e2) rfl rfl ⟨by decide, by decide⟩ rfl hl.1 rfl (Nat.le_of_ble_eq_true rfl) dL_law_597 hcs) (fun H locs hW => ?_)
  exact lv_icmp_eq (tgt := 1573) C.1 C.2.1 dL_law_600 (by decide) (fun _ => kk _ _ _ _ hR hW hl) (fun c => absurd rfl c)
set_option maxRecDepth 100000 in
set_option maxHeartbeats 4000000 in
theorem lc_11 (C : Cx p s m meth c #[Value.ref b] code 4 ret RL D ca ad) (hX : va_X b L xs s s.heap) (hbl : b < s.heap.size) (hbA : ¬ AA ad b) (hcs : 197 + 0 ≤ room_1.cells ∧ 6445 + 0 ≤ room_1.slots) (hi1 : vp_in (x3 + 1) L) (hi2 : vp_in (x3 + 2) L) (hOK : OK_11 N Rel) (hR : Rel mm) (hW : Wd D ca ad s.heap mm H locs) (hl : lv_has ls 4 [(3, .int x3), (2, .ref (ad 175)), (1, .ref (ad 0)), (0, .ref b)]) (kk : ∀ (mm : Mm) (H : Heap) (locs : List Loc) (ls : Array Slot), Rel mm → Wd D ca ad s.heap mm H locs → lv_has ls 4 [(3, .int x3), (2, .ref (ad 175)), (1, .ref (ad 0)), (0, .ref b)] → W p l e room_1 s m #[Value.ref b] below meth c H locs 197 6445 Q (F0 m 1573 ls [])) : W p l e room_1 s m #[Value.ref b] below meth c H locs 197 6445 Q (F0 m 605 ls []) := by
  obtain ⟨v, m1, m2, e1, e2, hR⟩ := hOK (xs (x3 + 1).toNatClampNeg) (xs (x3 + 2).toNatClampNeg) mm hR
  refine lv_aload_n C.1 C.2.1 dL_law_605 rfl (lv_at hl 2 rfl) ?_
  refine lv_aload_n C.1 C.2.1 dL_law_606 rfl (lv_at hl 3 rfl) ?_
  refine lv_iload_n C.1 C.2.1 dL_law_607 rfl (lv_at hl 0 rfl) ?_
  refine lv_iconst (v := 1) C.1 C.2.1 dL_law_608 (by decide) ?_
  refine lv_iadd C.1 C.2.1 dL_law_609 ?_
  refine va_sld C.1 C.2.1 hX hbl hbA hW.2 hi1 dL_law_610 ?_
  refine lv_aload_n C.1 C.2.1 dL_law_611 rfl (lv_at hl 3 rfl) ?_
  refine lv_iload_n C.1 C.2.1 dL_law_612 rfl (lv_at hl 0 rfl) ?_
  refine lv_iconst (v := 2) C.1 C.2.1 dL_law_613 (by decide) ?_
  refine lv_iadd C.1 C.2.1 dL_law_614 ?_
  refine va_sld C.1 C.2.1 hX hbl hbA hW.2 hi2 dL_law_615 ?_
  refine z_ci hW (z_runV C hW [.int (xs (x3 + 1).toNatClampNeg), .int (xs (x3 + 2).toNatClampNeg)] [] s11_0.1 s11_0.2.1 kX11.1 kvX11_mark q_501 (tX11_mark l C.2.2.2.2.2.2.1 s11_0 e1) rfl rfl ⟨by decide, by decide⟩ rfl hl.1 rfl (Nat.le_of_ble_eq_true rfl) dL_law_616 hcs) (fun H locs hW => ?_)
  refine lv_aload_n C.1 C.2.1 dL_law_619 rfl (lv_at hl 1 rfl) ?_
  refine lv_aload_n C.1 C.2.1 dL_law_620 rfl (lv_at hl 3 rfl) ?_
  refine lv_iload_n C.1 C.2.1 dL_law_621 rfl (lv_at hl 0 rfl) ?_
  refine lv_iconst (v := 1) C.1 C.2.1 dL_law_622 (by decide) ?_
  refine lv_iadd C.1 C.2.1 dL_law_623 ?_
  refine va_sld C.1 C.2.1 hX hbl hbA hW.2 hi1 dL_law_624 ?_
  refine lv_aload_n C.1 C.2.1 dL_law_625 rfl (lv_at hl 3 rfl) ?_
  refine lv_iload_n C.1 C.2.1 dL_law_626 rfl (lv_at hl 0 rfl) ?_
  refine lv_iconst (v := 2) C.1 C.2.1 dL_law_627 (by decide) ?_
  refine lv_iadd C.1 C.2.1 dL_law_628 ?_
  refine va_sld C.1 C.2.1 hX hbl hbA hW.2 hi2 dL_law_629 ?_
  refine z_ci hW (z_runV C hW [.int (xs (x3 + 1).toNatClampNeg), .int (xs (x3 + 2).toNatClampNeg)] [.int v] s12_175.1 s12_175.2.1 kX12.1 kvX12_mark q_1256 (tX12_mark l C.2.2.2.2.2.2.1 s12_175 e2) rfl rfl ⟨by decide, by decide⟩ rfl hl.1 rfl (Nat.le_of_ble_eq_true rfl) dL_law_630 hcs) (fun H locs hW => ?_)
  exact lv_icmp_eq (tgt := 1573) C.1 C.2.1 dL_law_633 (by decide) (fun _ => kk _ _ _ _ hR hW hl) (fun c => absurd rfl c)
set_option maxRecDepth 100000 in
set_option maxHeartbeats 4000000 in
theorem lc_12 (C : Cx p s m meth c #[Value.ref b] code 4 ret RL D ca ad) (hX : va_X b L xs s s.heap) (hbl : b < s.heap.size) (hbA : ¬ AA ad b) (hcs : 197 + 0 ≤ room_1.cells ∧ 6445 + 0 ≤ room_1.slots) (hi1 : vp_in (x3 + 1) L) (hi2 : vp_in (x3 + 2) L) (hOK : OK_12 N Rel) (hR : Rel mm) (hW : Wd D ca ad s.heap mm H locs) (hl : lv_has ls 4 [(3, .int x3), (2, .ref (ad 175)), (1, .ref (ad 0)), (0, .ref b)]) (kk : ∀ (mm : Mm) (H : Heap) (locs : List Loc) (ls : Array Slot), Rel mm → Wd D ca ad s.heap mm H locs → lv_has ls 4 [(3, .int x3), (2, .ref (ad 175)), (1, .ref (ad 0)), (0, .ref b)] → W p l e room_1 s m #[Value.ref b] below meth c H locs 197 6445 Q (F0 m 1573 ls [])) : W p l e room_1 s m #[Value.ref b] below meth c H locs 197 6445 Q (F0 m 638 ls []) := by
  obtain ⟨v, m1, m2, e1, e2, hR⟩ := hOK (xs (x3 + 1).toNatClampNeg) (xs (x3 + 2).toNatClampNeg) mm hR
  refine lv_aload_n C.1 C.2.1 dL_law_638 rfl (lv_at hl 2 rfl) ?_
  refine lv_aload_n C.1 C.2.1 dL_law_639 rfl (lv_at hl 3 rfl) ?_
  refine lv_iload_n C.1 C.2.1 dL_law_640 rfl (lv_at hl 0 rfl) ?_
  refine lv_iconst (v := 1) C.1 C.2.1 dL_law_641 (by decide) ?_
  refine lv_iadd C.1 C.2.1 dL_law_642 ?_
  refine va_sld C.1 C.2.1 hX hbl hbA hW.2 hi1 dL_law_643 ?_
  refine lv_aload_n C.1 C.2.1 dL_law_644 rfl (lv_at hl 3 rfl) ?_
  refine lv_iload_n C.1 C.2.1 dL_law_645 rfl (lv_at hl 0 rfl) ?_
  refine lv_iconst (v := 2) C.1 C.2.1 dL_law_646 (by decide) ?_
  refine lv_iadd C.1 C.2.1 dL_law_647 ?_
  refine va_sld C.1 C.2.1 hX hbl hbA hW.2 hi2 dL_law_648 ?_
  refine z_ci hW (z_runV C hW [.int (xs (x3 + 1).toNatClampNeg), .int (xs (x3 + 2).toNatClampNeg)] [] s11_0.1 s11_0.2.1 kX11.1 kvX11_stock q_537 (tX11_stock l C.2.2.2.2.2.2.1 s11_0 e1) rfl rfl ⟨by decide, by decide⟩ rfl hl.1 rfl (Nat.le_of_ble_eq_true rfl) dL_law_649 hcs) (fun H locs hW => ?_)
  refine lv_aload_n C.1 C.2.1 dL_law_652 rfl (lv_at hl 1 rfl) ?_
  refine lv_aload_n C.1 C.2.1 dL_law_653 rfl (lv_at hl 3 rfl) ?_
  refine lv_iload_n C.1 C.2.1 dL_law_654 rfl (lv_at hl 0 rfl) ?_
  refine lv_iconst (v := 1) C.1 C.2.1 dL_law_655 (by decide) ?_
  refine lv_iadd C.1 C.2.1 dL_law_656 ?_
  refine va_sld C.1 C.2.1 hX hbl hbA hW.2 hi1 dL_law_657 ?_
  refine lv_aload_n C.1 C.2.1 dL_law_658 rfl (lv_at hl 3 rfl) ?_
  refine lv_iload_n C.1 C.2.1 dL_law_659 rfl (lv_at hl 0 rfl) ?_
  refine lv_iconst (v := 2) C.1 C.2.1 dL_law_660 (by decide) ?_
  refine lv_iadd C.1 C.2.1 dL_law_661 ?_
  refine va_sld C.1 C.2.1 hX hbl hbA hW.2 hi2 dL_law_662 ?_
  refine z_ci hW (z_runV C hW [.int (xs (x3 + 1).toNatClampNeg), .int (xs (x3 + 2).toNatClampNeg)] [.int v] s12_175.1 s12_175.2.1 kX12.1 kvX12_stock q_1268 (tX12_stock l C.2.2.2.2.2.2.1 s12_175 e2) rfl rfl ⟨by decide, by decide⟩ rfl hl.1 rfl (Nat.le_of_ble_eq_true rfl) dL_law_663 hcs) (fun H locs hW => ?_)
  exact lv_icmp_eq (tgt := 1573) C.1 C.2.1 dL_law_666 (by decide) (fun _ => kk _ _ _ _ hR hW hl) (fun c => absurd rfl c)
set_option maxRecDepth 100000 in
set_option maxHeartbeats 4000000 in
theorem lc_13 (C : Cx p s m meth c #[Value.ref b] code 4 ret RL D ca ad) (hX : va_X b L xs s s.heap) (hbl : b < s.heap.size) (hbA : ¬ AA ad b) (hcs : 197 + 0 ≤ room_1.cells ∧ 6445 + 0 ≤ room_1.slots) (hi1 : vp_in (x3 + 1) L) (hOK : OK_13 N Rel) (hR : Rel mm) (hW : Wd D ca ad s.heap mm H locs) (hl : lv_has ls 4 [(3, .int x3), (2, .ref (ad 175)), (1, .ref (ad 0)), (0, .ref b)]) (kk : ∀ (mm : Mm) (H : Heap) (locs : List Loc) (ls : Array Slot), Rel mm → Wd D ca ad s.heap mm H locs → lv_has ls 4 [(3, .int x3), (2, .ref (ad 175)), (1, .ref (ad 0)), (0, .ref b)] → W p l e room_1 s m #[Value.ref b] below meth c H locs 197 6445 Q (F0 m 1573 ls [])) : W p l e room_1 s m #[Value.ref b] below meth c H locs 197 6445 Q (F0 m 671 ls []) := by
  obtain ⟨v, m1, m2, e1, e2, hR⟩ := hOK (xs (x3 + 1).toNatClampNeg) mm hR
  refine lv_aload_n C.1 C.2.1 dL_law_671 rfl (lv_at hl 2 rfl) ?_
  refine lv_aload_n C.1 C.2.1 dL_law_672 rfl (lv_at hl 3 rfl) ?_
  refine lv_iload_n C.1 C.2.1 dL_law_673 rfl (lv_at hl 0 rfl) ?_
  refine lv_iconst (v := 1) C.1 C.2.1 dL_law_674 (by decide) ?_
  refine lv_iadd C.1 C.2.1 dL_law_675 ?_
  refine va_sld C.1 C.2.1 hX hbl hbA hW.2 hi1 dL_law_676 ?_
  refine z_ci hW (z_runV C hW [.int (xs (x3 + 1).toNatClampNeg)] [] s11_0.1 s11_0.2.1 kX11.1 kvX11_damp q_541 (tX11_damp l C.2.2.2.2.2.2.1 s11_0 e1) rfl rfl ⟨by decide, by decide⟩ rfl hl.1 rfl (Nat.le_of_ble_eq_true rfl) dL_law_677 hcs) (fun H locs hW => ?_)
  refine lv_aload_n C.1 C.2.1 dL_law_680 rfl (lv_at hl 1 rfl) ?_
  refine lv_aload_n C.1 C.2.1 dL_law_681 rfl (lv_at hl 3 rfl) ?_
  refine lv_iload_n C.1 C.2.1 dL_law_682 rfl (lv_at hl 0 rfl) ?_
  refine lv_iconst (v := 1) C.1 C.2.1 dL_law_683 (by decide) ?_
  refine lv_iadd C.1 C.2.1 dL_law_684 ?_
  refine va_sld C.1 C.2.1 hX hbl hbA hW.2 hi1 dL_law_685 ?_
  refine z_ci hW (z_runV C hW [.int (xs (x3 + 1).toNatClampNeg)] [.int v] s12_175.1 s12_175.2.1 kX12.1 kvX12_damp q_1272 (tX12_damp l C.2.2.2.2.2.2.1 s12_175 e2) rfl rfl ⟨by decide, by decide⟩ rfl hl.1 rfl (Nat.le_of_ble_eq_true rfl) dL_law_686 hcs) (fun H locs hW => ?_)
  exact lv_icmp_eq (tgt := 1573) C.1 C.2.1 dL_law_689 (by decide) (fun _ => kk _ _ _ _ hR hW hl) (fun c => absurd rfl c)
set_option maxRecDepth 100000 in
set_option maxHeartbeats 4000000 in
theorem lc_14 (C : Cx p s m meth c #[Value.ref b] code 4 ret RL D ca ad) (hX : va_X b L xs s s.heap) (hbl : b < s.heap.size) (hbA : ¬ AA ad b) (hcs : 197 + 0 ≤ room_1.cells ∧ 6445 + 0 ≤ room_1.slots) (hi1 : vp_in (x3 + 1) L) (hi2 : vp_in (x3 + 2) L) (hOK : OK_14 N Rel) (hR : Rel mm) (hW : Wd D ca ad s.heap mm H locs) (hl : lv_has ls 4 [(3, .int x3), (2, .ref (ad 175)), (1, .ref (ad 0)), (0, .ref b)]) (kk : ∀ (mm : Mm) (H : Heap) (locs : List Loc) (ls : Array Slot), Rel mm → Wd D ca ad s.heap mm H locs → lv_has ls 4 [(3, .int x3), (2, .ref (ad 175)), (1, .ref (ad 0)), (0, .ref b)] → W p l e room_1 s m #[Value.ref b] below meth c H locs 197 6445 Q (F0 m 1573 ls [])) : W p l e room_1 s m #[Value.ref b] below meth c H locs 197 6445 Q (F0 m 694 ls []) := by
  obtain ⟨v, m1, m2, e1, e2, hR⟩ := hOK (xs (x3 + 1).toNatClampNeg) (xs (x3 + 2).toNatClampNeg) mm hR
  refine lv_aload_n C.1 C.2.1 dL_law_694 rfl (lv_at hl 2 rfl) ?_
  refine lv_aload_n C.1 C.2.1 dL_law_695 rfl (lv_at hl 3 rfl) ?_
  refine lv_iload_n C.1 C.2.1 dL_law_696 rfl (lv_at hl 0 rfl) ?_
  refine lv_iconst (v := 1) C.1 C.2.1 dL_law_697 (by decide) ?_
  refine lv_iadd C.1 C.2.1 dL_law_698 ?_
  refine va_sld C.1 C.2.1 hX hbl hbA hW.2 hi1 dL_law_699 ?_
  refine lv_aload_n C.1 C.2.1 dL_law_700 rfl (lv_at hl 3 rfl) ?_
  refine lv_iload_n C.1 C.2.1 dL_law_701 rfl (lv_at hl 0 rfl) ?_
  refine lv_iconst (v := 2) C.1 C.2.1 dL_law_702 (by decide) ?_
  refine lv_iadd C.1 C.2.1 dL_law_703 ?_
  refine va_sld C.1 C.2.1 hX hbl hbA hW.2 hi2 dL_law_704 ?_
  refine z_ci hW (z_runV C hW [.int (xs (x3 + 1).toNatClampNeg), .int (xs (x3 + 2).toNatClampNeg)] [] s11_0.1 s11_0.2.1 kX11.1 kvX11_judge q_545 (tX11_judge l C.2.2.2.2.2.2.1 s11_0 e1) rfl rfl ⟨by decide, by decide⟩ rfl hl.1 rfl (Nat.le_of_ble_eq_true rfl) dL_law_705 hcs) (fun H locs hW => ?_)
  refine lv_aload_n C.1 C.2.1 dL_law_708 rfl (lv_at hl 1 rfl) ?_
  refine lv_aload_n C.1 C.2.1 dL_law_709 rfl (lv_at hl 3 rfl) ?_
  refine lv_iload_n C.1 C.2.1 dL_law_710 rfl (lv_at hl 0 rfl) ?_
  refine lv_iconst (v := 1) C.1 C.2.1 dL_law_711 (by decide) ?_
  refine lv_iadd C.1 C.2.1 dL_law_712 ?_
  refine va_sld C.1 C.2.1 hX hbl hbA hW.2 hi1 dL_law_713 ?_
  refine lv_aload_n C.1 C.2.1 dL_law_714 rfl (lv_at hl 3 rfl) ?_
  refine lv_iload_n C.1 C.2.1 dL_law_715 rfl (lv_at hl 0 rfl) ?_
  refine lv_iconst (v := 2) C.1 C.2.1 dL_law_716 (by decide) ?_
  refine lv_iadd C.1 C.2.1 dL_law_717 ?_
  refine va_sld C.1 C.2.1 hX hbl hbA hW.2 hi2 dL_law_718 ?_
  refine z_ci hW (z_runV C hW [.int (xs (x3 + 1).toNatClampNeg), .int (xs (x3 + 2).toNatClampNeg)] [.int v] s12_175.1 s12_175.2.1 kX12.1 kvX12_judge q_1276 (tX12_judge l C.2.2.2.2.2.2.1 s12_175 e2) rfl rfl ⟨by decide, by decide⟩ rfl hl.1 rfl (Nat.le_of_ble_eq_true rfl) dL_law_719 hcs) (fun H locs hW => ?_)
  exact lv_icmp_eq (tgt := 1573) C.1 C.2.1 dL_law_722 (by decide) (fun _ => kk _ _ _ _ hR hW hl) (fun c => absurd rfl c)
set_option maxRecDepth 100000 in
set_option maxHeartbeats 4000000 in
theorem lc_15 (C : Cx p s m meth c #[Value.ref b] code 4 ret RL D ca ad) (hX : va_X b L xs s s.heap) (hbl : b < s.heap.size) (hbA : ¬ AA ad b) (hcs : 197 + 0 ≤ room_1.cells ∧ 6445 + 0 ≤ room_1.slots) (hi1 : vp_in (x3 + 1) L) (hi2 : vp_in (x3 + 2) L) (hi3 : vp_in (x3 + 3) L) (hOK : OK_15 N Rel) (hR : Rel mm) (hW : Wd D ca ad s.heap mm H locs) (hl : lv_has ls 4 [(3, .int x3), (2, .ref (ad 175)), (1, .ref (ad 0)), (0, .ref b)]) (kk : ∀ (mm : Mm) (H : Heap) (locs : List Loc) (ls : Array Slot), Rel mm → Wd D ca ad s.heap mm H locs → lv_has ls 4 [(3, .int x3), (2, .ref (ad 175)), (1, .ref (ad 0)), (0, .ref b)] → W p l e room_1 s m #[Value.ref b] below meth c H locs 197 6445 Q (F0 m 1573 ls [])) : W p l e room_1 s m #[Value.ref b] below meth c H locs 197 6445 Q (F0 m 727 ls []) := by
  obtain ⟨v, m1, m2, e1, e2, hR⟩ := hOK (xs (x3 + 1).toNatClampNeg) (xs (x3 + 2).toNatClampNeg) (xs (x3 + 3).toNatClampNeg) mm hR
  refine lv_aload_n C.1 C.2.1 dL_law_727 rfl (lv_at hl 2 rfl) ?_
  refine lv_aload_n C.1 C.2.1 dL_law_728 rfl (lv_at hl 3 rfl) ?_
  refine lv_iload_n C.1 C.2.1 dL_law_729 rfl (lv_at hl 0 rfl) ?_
  refine lv_iconst (v := 1) C.1 C.2.1 dL_law_730 (by decide) ?_
  refine lv_iadd C.1 C.2.1 dL_law_731 ?_
  refine va_sld C.1 C.2.1 hX hbl hbA hW.2 hi1 dL_law_732 ?_
  refine lv_aload_n C.1 C.2.1 dL_law_733 rfl (lv_at hl 3 rfl) ?_
  refine lv_iload_n C.1 C.2.1 dL_law_734 rfl (lv_at hl 0 rfl) ?_
  refine lv_iconst (v := 2) C.1 C.2.1 dL_law_735 (by decide) ?_
  refine lv_iadd C.1 C.2.1 dL_law_736 ?_
  refine va_sld C.1 C.2.1 hX hbl hbA hW.2 hi2 dL_law_737 ?_
  refine lv_aload_n C.1 C.2.1 dL_law_738 rfl (lv_at hl 3 rfl) ?_
  refine lv_iload_n C.1 C.2.1 dL_law_739 rfl (lv_at hl 0 rfl) ?_
  refine lv_iconst (v := 3) C.1 C.2.1 dL_law_740 (by decide) ?_
  refine lv_iadd C.1 C.2.1 dL_law_741 ?_
  refine va_sld C.1 C.2.1 hX hbl hbA hW.2 hi3 dL_law_742 ?_
  refine z_ci hW (z_runV C hW [.int (xs (x3 + 1).toNatClampNeg), .int (xs (x3 + 2).toNatClampNeg), .int (xs (x3 + 3).toNatClampNeg)] [] s11_0.1 s11_0.2.1 kX11.1 kvX11_who q_597 (tX11_who l C.2.2.2.2.2.2.1 s11_0 e1) rfl rfl ⟨by decide, by decide⟩ rfl hl.1 rfl (Nat.le_of_ble_eq_true rfl) dL_law_743 hcs) (fun H locs hW => ?_)
  refine lv_aload_n C.1 C.2.1 dL_law_746 rfl (lv_at hl 1 rfl) ?_
  refine lv_aload_n C.1 C.2.1 dL_law_747 rfl (lv_at hl 3 rfl) ?_
  refine lv_iload_n C.1 C.2.1 dL_law_748 rfl (lv_at hl 0 rfl) ?_
  refine lv_iconst (v := 1) C.1 C.2.1 dL_law_749 (by decide) ?_
  refine lv_iadd C.1 C.2.1 dL_law_750 ?_
  refine va_sld C.1 C.2.1 hX hbl hbA hW.2 hi1 dL_law_751 ?_
  refine lv_aload_n C.1 C.2.1 dL_law_752 rfl (lv_at hl 3 rfl) ?_
  refine lv_iload_n C.1 C.2.1 dL_law_753 rfl (lv_at hl 0 rfl) ?_
  refine lv_iconst (v := 2) C.1 C.2.1 dL_law_754 (by decide) ?_
  refine lv_iadd C.1 C.2.1 dL_law_755 ?_
  refine va_sld C.1 C.2.1 hX hbl hbA hW.2 hi2 dL_law_756 ?_
  refine lv_aload_n C.1 C.2.1 dL_law_757 rfl (lv_at hl 3 rfl) ?_
  refine lv_iload_n C.1 C.2.1 dL_law_758 rfl (lv_at hl 0 rfl) ?_
  refine lv_iconst (v := 3) C.1 C.2.1 dL_law_759 (by decide) ?_
  refine lv_iadd C.1 C.2.1 dL_law_760 ?_
  refine va_sld C.1 C.2.1 hX hbl hbA hW.2 hi3 dL_law_761 ?_
  refine z_ci hW (z_runV C hW [.int (xs (x3 + 1).toNatClampNeg), .int (xs (x3 + 2).toNatClampNeg), .int (xs (x3 + 3).toNatClampNeg)] [.int v] s12_175.1 s12_175.2.1 kX12.1 kvX12_who q_1312 (tX12_who l C.2.2.2.2.2.2.1 s12_175 e2) rfl rfl ⟨by decide, by decide⟩ rfl hl.1 rfl (Nat.le_of_ble_eq_true rfl) dL_law_762 hcs) (fun H locs hW => ?_)
  exact lv_icmp_eq (tgt := 1573) C.1 C.2.1 dL_law_765 (by decide) (fun _ => kk _ _ _ _ hR hW hl) (fun c => absurd rfl c)
set_option maxRecDepth 100000 in
set_option maxHeartbeats 4000000 in
theorem lc_16 (C : Cx p s m meth c #[Value.ref b] code 4 ret RL D ca ad) (hX : va_X b L xs s s.heap) (hbl : b < s.heap.size) (hbA : ¬ AA ad b) (hcs : 197 + 0 ≤ room_1.cells ∧ 6445 + 0 ≤ room_1.slots) (hi1 : vp_in (x3 + 1) L) (hi2 : vp_in (x3 + 2) L) (hOK : OK_16 N Rel) (hR : Rel mm) (hW : Wd D ca ad s.heap mm H locs) (hl : lv_has ls 4 [(3, .int x3), (2, .ref (ad 175)), (1, .ref (ad 0)), (0, .ref b)]) (kk : ∀ (mm : Mm) (H : Heap) (locs : List Loc) (ls : Array Slot), Rel mm → Wd D ca ad s.heap mm H locs → lv_has ls 4 [(3, .int x3), (2, .ref (ad 175)), (1, .ref (ad 0)), (0, .ref b)] → W p l e room_1 s m #[Value.ref b] below meth c H locs 197 6445 Q (F0 m 1573 ls [])) : W p l e room_1 s m #[Value.ref b] below meth c H locs 197 6445 Q (F0 m 770 ls []) := by
  obtain ⟨v, m1, m2, e1, e2, hR⟩ := hOK (xs (x3 + 1).toNatClampNeg) (xs (x3 + 2).toNatClampNeg) mm hR
  refine lv_aload_n C.1 C.2.1 dL_law_770 rfl (lv_at hl 2 rfl) ?_
  refine lv_aload_n C.1 C.2.1 dL_law_771 rfl (lv_at hl 3 rfl) ?_
  refine lv_iload_n C.1 C.2.1 dL_law_772 rfl (lv_at hl 0 rfl) ?_
  refine lv_iconst (v := 1) C.1 C.2.1 dL_law_773 (by decide) ?_
  refine lv_iadd C.1 C.2.1 dL_law_774 ?_
  refine va_sld C.1 C.2.1 hX hbl hbA hW.2 hi1 dL_law_775 ?_
  refine lv_aload_n C.1 C.2.1 dL_law_776 rfl (lv_at hl 3 rfl) ?_
  refine lv_iload_n C.1 C.2.1 dL_law_777 rfl (lv_at hl 0 rfl) ?_
  refine lv_iconst (v := 2) C.1 C.2.1 dL_law_778 (by decide) ?_
  refine lv_iadd C.1 C.2.1 dL_law_779 ?_
  refine va_sld C.1 C.2.1 hX hbl hbA hW.2 hi2 dL_law_780 ?_
  refine z_ci hW (z_runV C hW [.int (xs (x3 + 1).toNatClampNeg), .int (xs (x3 + 2).toNatClampNeg)] [] s11_0.1 s11_0.2.1 kX11.1 kvX11_best q_601 (tX11_best l C.2.2.2.2.2.2.1 s11_0 e1) rfl rfl ⟨by decide, by decide⟩ rfl hl.1 rfl (Nat.le_of_ble_eq_true rfl) dL_law_781 hcs) (fun H locs hW => ?_)
  refine lv_aload_n C.1 C.2.1 dL_law_784 rfl (lv_at hl 1 rfl) ?_
  refine lv_aload_n C.1 C.2.1 dL_law_785 rfl (lv_at hl 3 rfl) ?_
  refine lv_iload_n C.1 C.2.1 dL_law_786 rfl (lv_at hl 0 rfl) ?_
  refine lv_iconst (v := 1) C.1 C.2.1 dL_law_787 (by decide) ?_
  refine lv_iadd C.1 C.2.1 dL_law_788 ?_
  refine va_sld C.1 C.2.1 hX hbl hbA hW.2 hi1 dL_law_789 ?_
  refine lv_aload_n C.1 C.2.1 dL_law_790 rfl (lv_at hl 3 rfl) ?_
  refine lv_iload_n C.1 C.2.1 dL_law_791 rfl (lv_at hl 0 rfl) ?_
  refine lv_iconst (v := 2) C.1 C.2.1 dL_law_792 (by decide) ?_
  refine lv_iadd C.1 C.2.1 dL_law_793 ?_
  refine va_sld C.1 C.2.1 hX hbl hbA hW.2 hi2 dL_law_794 ?_
  refine z_ci hW (z_runV C hW [.int (xs (x3 + 1).toNatClampNeg), .int (xs (x3 + 2).toNatClampNeg)] [.int v] s12_175.1 s12_175.2.1 kX12.1 kvX12_best q_1316 (tX12_best l C.2.2.2.2.2.2.1 s12_175 e2) rfl rfl ⟨by decide, by decide⟩ rfl hl.1 rfl (Nat.le_of_ble_eq_true rfl) dL_law_795 hcs) (fun H locs hW => ?_)
  exact lv_icmp_eq (tgt := 1573) C.1 C.2.1 dL_law_798 (by decide) (fun _ => kk _ _ _ _ hR hW hl) (fun c => absurd rfl c)
set_option maxRecDepth 100000 in
set_option maxHeartbeats 4000000 in
theorem lc_17 (C : Cx p s m meth c #[Value.ref b] code 4 ret RL D ca ad) (hX : va_X b L xs s s.heap) (hbl : b < s.heap.size) (hbA : ¬ AA ad b) (hcs : 197 + 0 ≤ room_1.cells ∧ 6445 + 0 ≤ room_1.slots) (hi1 : vp_in (x3 + 1) L) (hi2 : vp_in (x3 + 2) L) (hOK : OK_17 N Rel) (hR : Rel mm) (hW : Wd D ca ad s.heap mm H locs) (hl : lv_has ls 4 [(3, .int x3), (2, .ref (ad 175)), (1, .ref (ad 0)), (0, .ref b)]) (kk : ∀ (mm : Mm) (H : Heap) (locs : List Loc) (ls : Array Slot), Rel mm → Wd D ca ad s.heap mm H locs → lv_has ls 4 [(3, .int x3), (2, .ref (ad 175)), (1, .ref (ad 0)), (0, .ref b)] → W p l e room_1 s m #[Value.ref b] below meth c H locs 197 6445 Q (F0 m 1573 ls [])) : W p l e room_1 s m #[Value.ref b] below meth c H locs 197 6445 Q (F0 m 803 ls []) := by
  obtain ⟨v, m1, m2, e1, e2, hR⟩ := hOK (xs (x3 + 1).toNatClampNeg) (xs (x3 + 2).toNatClampNeg) mm hR
  refine lv_aload_n C.1 C.2.1 dL_law_803 rfl (lv_at hl 2 rfl) ?_
  refine lv_aload_n C.1 C.2.1 dL_law_804 rfl (lv_at hl 3 rfl) ?_
  refine lv_iload_n C.1 C.2.1 dL_law_805 rfl (lv_at hl 0 rfl) ?_
  refine lv_iconst (v := 1) C.1 C.2.1 dL_law_806 (by decide) ?_
  refine lv_iadd C.1 C.2.1 dL_law_807 ?_
  refine va_sld C.1 C.2.1 hX hbl hbA hW.2 hi1 dL_law_808 ?_
  refine lv_aload_n C.1 C.2.1 dL_law_809 rfl (lv_at hl 3 rfl) ?_
  refine lv_iload_n C.1 C.2.1 dL_law_810 rfl (lv_at hl 0 rfl) ?_
  refine lv_iconst (v := 2) C.1 C.2.1 dL_law_811 (by decide) ?_
  refine lv_iadd C.1 C.2.1 dL_law_812 ?_
  refine va_sld C.1 C.2.1 hX hbl hbA hW.2 hi2 dL_law_813 ?_
  refine z_ci hW (z_runV C hW [.int (xs (x3 + 1).toNatClampNeg), .int (xs (x3 + 2).toNatClampNeg)] [] s11_0.1 s11_0.2.1 kX11.1 kvX11_fewest q_651 (tX11_fewest l C.2.2.2.2.2.2.1 s11_0 e1) rfl rfl ⟨by decide, by decide⟩ rfl hl.1 rfl (Nat.le_of_ble_eq_true rfl) dL_law_814 hcs) (fun H locs hW => ?_)
  refine lv_aload_n C.1 C.2.1 dL_law_817 rfl (lv_at hl 1 rfl) ?_
  refine lv_aload_n C.1 C.2.1 dL_law_818 rfl (lv_at hl 3 rfl) ?_
  refine lv_iload_n C.1 C.2.1 dL_law_819 rfl (lv_at hl 0 rfl) ?_
  refine lv_iconst (v := 1) C.1 C.2.1 dL_law_820 (by decide) ?_
  refine lv_iadd C.1 C.2.1 dL_law_821 ?_
  refine va_sld C.1 C.2.1 hX hbl hbA hW.2 hi1 dL_law_822 ?_
  refine lv_aload_n C.1 C.2.1 dL_law_823 rfl (lv_at hl 3 rfl) ?_
  refine lv_iload_n C.1 C.2.1 dL_law_824 rfl (lv_at hl 0 rfl) ?_
  refine lv_iconst (v := 2) C.1 C.2.1 dL_law_825 (by decide) ?_
  refine lv_iadd C.1 C.2.1 dL_law_826 ?_
  refine va_sld C.1 C.2.1 hX hbl hbA hW.2 hi2 dL_law_827 ?_
  refine z_ci hW (z_runV C hW [.int (xs (x3 + 1).toNatClampNeg), .int (xs (x3 + 2).toNatClampNeg)] [.int v] s12_175.1 s12_175.2.1 kX12.1 kvX12_fewest q_1349 (tX12_fewest l C.2.2.2.2.2.2.1 s12_175 e2) rfl rfl ⟨by decide, by decide⟩ rfl hl.1 rfl (Nat.le_of_ble_eq_true rfl) dL_law_828 hcs) (fun H locs hW => ?_)
  exact lv_icmp_eq (tgt := 1573) C.1 C.2.1 dL_law_831 (by decide) (fun _ => kk _ _ _ _ hR hW hl) (fun c => absurd rfl c)
set_option maxRecDepth 100000 in
set_option maxHeartbeats 4000000 in
theorem lc_18 (C : Cx p s m meth c #[Value.ref b] code 4 ret RL D ca ad) (hX : va_X b L xs s s.heap) (hbl : b < s.heap.size) (hbA : ¬ AA ad b) (hcs : 197 + 0 ≤ room_1.cells ∧ 6445 + 0 ≤ room_1.slots) (hi1 : vp_in (x3 + 1) L) (hi2 : vp_in (x3 + 2) L) (hOK : OK_18 N Rel) (hR : Rel mm) (hW : Wd D ca ad s.heap mm H locs) (hl : lv_has ls 4 [(3, .int x3), (2, .ref (ad 175)), (1, .ref (ad 0)), (0, .ref b)]) (kk : ∀ (mm : Mm) (H : Heap) (locs : List Loc) (ls : Array Slot), Rel mm → Wd D ca ad s.heap mm H locs → lv_has ls 4 [(3, .int x3), (2, .ref (ad 175)), (1, .ref (ad 0)), (0, .ref b)] → W p l e room_1 s m #[Value.ref b] below meth c H locs 197 6445 Q (F0 m 1573 ls [])) : W p l e room_1 s m #[Value.ref b] below meth c H locs 197 6445 Q (F0 m 836 ls []) := by
  obtain ⟨v, m1, m2, e1, e2, hR⟩ := hOK (xs (x3 + 1).toNatClampNeg) (xs (x3 + 2).toNatClampNeg) mm hR
  refine lv_aload_n C.1 C.2.1 dL_law_836 rfl (lv_at hl 2 rfl) ?_
  refine lv_aload_n C.1 C.2.1 dL_law_837 rfl (lv_at hl 3 rfl) ?_
  refine lv_iload_n C.1 C.2.1 dL_law_838 rfl (lv_at hl 0 rfl) ?_
  refine lv_iconst (v := 1) C.1 C.2.1 dL_law_839 (by decide) ?_
  refine lv_iadd C.1 C.2.1 dL_law_840 ?_
  refine va_sld C.1 C.2.1 hX hbl hbA hW.2 hi1 dL_law_841 ?_
  refine lv_aload_n C.1 C.2.1 dL_law_842 rfl (lv_at hl 3 rfl) ?_
  refine lv_iload_n C.1 C.2.1 dL_law_843 rfl (lv_at hl 0 rfl) ?_
  refine lv_iconst (v := 2) C.1 C.2.1 dL_law_844 (by decide) ?_
  refine lv_iadd C.1 C.2.1 dL_law_845 ?_
  refine va_sld C.1 C.2.1 hX hbl hbA hW.2 hi2 dL_law_846 ?_
  refine z_ci hW (z_runV C hW [.int (xs (x3 + 1).toNatClampNeg), .int (xs (x3 + 2).toNatClampNeg)] [] s11_0.1 s11_0.2.1 kX11.1 kvX11_ways q_664 (tX11_ways l C.2.2.2.2.2.2.1 s11_0 e1) rfl rfl ⟨by decide, by decide⟩ rfl hl.1 rfl (Nat.le_of_ble_eq_true rfl) dL_law_847 hcs) (fun H locs hW => ?_)
  refine lv_aload_n C.1 C.2.1 dL_law_850 rfl (lv_at hl 1 rfl) ?_
  refine lv_aload_n C.1 C.2.1 dL_law_851 rfl (lv_at hl 3 rfl) ?_
  refine lv_iload_n C.1 C.2.1 dL_law_852 rfl (lv_at hl 0 rfl) ?_
  refine lv_iconst (v := 1) C.1 C.2.1 dL_law_853 (by decide) ?_
  refine lv_iadd C.1 C.2.1 dL_law_854 ?_
  refine va_sld C.1 C.2.1 hX hbl hbA hW.2 hi1 dL_law_855 ?_
  refine lv_aload_n C.1 C.2.1 dL_law_856 rfl (lv_at hl 3 rfl) ?_
  refine lv_iload_n C.1 C.2.1 dL_law_857 rfl (lv_at hl 0 rfl) ?_
  refine lv_iconst (v := 2) C.1 C.2.1 dL_law_858 (by decide) ?_
  refine lv_iadd C.1 C.2.1 dL_law_859 ?_
  refine va_sld C.1 C.2.1 hX hbl hbA hW.2 hi2 dL_law_860 ?_
  refine z_ci hW (z_runV C hW [.int (xs (x3 + 1).toNatClampNeg), .int (xs (x3 + 2).toNatClampNeg)] [.int v] s12_175.1 s12_175.2.1 kX12.1 kvX12_ways q_1357 (tX12_ways l C.2.2.2.2.2.2.1 s12_175 e2) rfl rfl ⟨by decide, by decide⟩ rfl hl.1 rfl (Nat.le_of_ble_eq_true rfl) dL_law_861 hcs) (fun H locs hW => ?_)
  exact lv_icmp_eq (tgt := 1573) C.1 C.2.1 dL_law_864 (by decide) (fun _ => kk _ _ _ _ hR hW hl) (fun c => absurd rfl c)
set_option maxRecDepth 100000 in
set_option maxHeartbeats 4000000 in
theorem lc_19 (C : Cx p s m meth c #[Value.ref b] code 4 ret RL D ca ad) (hX : va_X b L xs s s.heap) (hbl : b < s.heap.size) (hbA : ¬ AA ad b) (hcs : 197 + 0 ≤ room_1.cells ∧ 6445 + 0 ≤ room_1.slots) (hi1 : vp_in (x3 + 1) L) (hOK : OK_19 N Rel) (hR : Rel mm) (hW : Wd D ca ad s.heap mm H locs) (hl : lv_has ls 4 [(3, .int x3), (2, .ref (ad 175)), (1, .ref (ad 0)), (0, .ref b)]) (kk : ∀ (mm : Mm) (H : Heap) (locs : List Loc) (ls : Array Slot), Rel mm → Wd D ca ad s.heap mm H locs → lv_has ls 4 [(3, .int x3), (2, .ref (ad 175)), (1, .ref (ad 0)), (0, .ref b)] → W p l e room_1 s m #[Value.ref b] below meth c H locs 197 6445 Q (F0 m 1573 ls [])) : W p l e room_1 s m #[Value.ref b] below meth c H locs 197 6445 Q (F0 m 869 ls []) := by
  obtain ⟨v, m1, m2, e1, e2, hR⟩ := hOK (xs (x3 + 1).toNatClampNeg) mm hR
  refine lv_aload_n C.1 C.2.1 dL_law_869 rfl (lv_at hl 2 rfl) ?_
  refine lv_aload_n C.1 C.2.1 dL_law_870 rfl (lv_at hl 3 rfl) ?_
  refine lv_iload_n C.1 C.2.1 dL_law_871 rfl (lv_at hl 0 rfl) ?_
  refine lv_iconst (v := 1) C.1 C.2.1 dL_law_872 (by decide) ?_
  refine lv_iadd C.1 C.2.1 dL_law_873 ?_
  refine va_sld C.1 C.2.1 hX hbl hbA hW.2 hi1 dL_law_874 ?_
  refine z_ci hW (z_runV C hW [.int (xs (x3 + 1).toNatClampNeg)] [] s11_0.1 s11_0.2.1 kX11.1 kvX11_sure q_686 (tX11_sure l C.2.2.2.2.2.2.1 s11_0 e1) rfl rfl ⟨by decide, by decide⟩ rfl hl.1 rfl (Nat.le_of_ble_eq_true rfl) dL_law_875 hcs) (fun H locs hW => ?_)
  refine lv_aload_n C.1 C.2.1 dL_law_878 rfl (lv_at hl 1 rfl) ?_
  refine lv_aload_n C.1 C.2.1 dL_law_879 rfl (lv_at hl 3 rfl) ?_
  refine lv_iload_n C.1 C.2.1 dL_law_880 rfl (lv_at hl 0 rfl) ?_
  refine lv_iconst (v := 1) C.1 C.2.1 dL_law_881 (by decide) ?_
  refine lv_iadd C.1 C.2.1 dL_law_882 ?_
  refine va_sld C.1 C.2.1 hX hbl hbA hW.2 hi1 dL_law_883 ?_
  refine z_ci hW (z_runV C hW [.int (xs (x3 + 1).toNatClampNeg)] [.int v] s12_175.1 s12_175.2.1 kX12.1 kvX12_sure q_1377 (tX12_sure l C.2.2.2.2.2.2.1 s12_175 e2) rfl rfl ⟨by decide, by decide⟩ rfl hl.1 rfl (Nat.le_of_ble_eq_true rfl) dL_law_884 hcs) (fun H locs hW => ?_)
  exact lv_icmp_eq (tgt := 1573) C.1 C.2.1 dL_law_887 (by decide) (fun _ => kk _ _ _ _ hR hW hl) (fun c => absurd rfl c)
set_option maxRecDepth 100000 in
set_option maxHeartbeats 4000000 in
theorem lc_20 (C : Cx p s m meth c #[Value.ref b] code 4 ret RL D ca ad) (hX : va_X b L xs s s.heap) (hbl : b < s.heap.size) (hbA : ¬ AA ad b) (hcs : 197 + 0 ≤ room_1.cells ∧ 6445 + 0 ≤ room_1.slots) (hi1 : vp_in (x3 + 1) L) (hOK : OK_20 N Rel) (hR : Rel mm) (hW : Wd D ca ad s.heap mm H locs) (hl : lv_has ls 4 [(3, .int x3), (2, .ref (ad 175)), (1, .ref (ad 0)), (0, .ref b)]) (kk : ∀ (mm : Mm) (H : Heap) (locs : List Loc) (ls : Array Slot), Rel mm → Wd D ca ad s.heap mm H locs → lv_has ls 4 [(3, .int x3), (2, .ref (ad 175)), (1, .ref (ad 0)), (0, .ref b)] → W p l e room_1 s m #[Value.ref b] below meth c H locs 197 6445 Q (F0 m 1573 ls [])) : W p l e room_1 s m #[Value.ref b] below meth c H locs 197 6445 Q (F0 m 892 ls []) := by
  obtain ⟨v, m1, m2, e1, e2, hR⟩ := hOK (xs (x3 + 1).toNatClampNeg) mm hR
  refine lv_aload_n C.1 C.2.1 dL_law_892 rfl (lv_at hl 2 rfl) ?_
  refine lv_aload_n C.1 C.2.1 dL_law_893 rfl (lv_at hl 3 rfl) ?_
  refine lv_iload_n C.1 C.2.1 dL_law_894 rfl (lv_at hl 0 rfl) ?_
  refine lv_iconst (v := 1) C.1 C.2.1 dL_law_895 (by decide) ?_
  refine lv_iadd C.1 C.2.1 dL_law_896 ?_
  refine va_sld C.1 C.2.1 hX hbl hbA hW.2 hi1 dL_law_897 ?_
  refine z_ci hW (z_runV C hW [.int (xs (x3 + 1).toNatClampNeg)] [] s11_0.1 s11_0.2.1 kX11.1 kvX11_safe q_701 (tX11_safe l C.2.2.2.2.2.2.1 s11_0 e1) rfl rfl ⟨by decide, by decide⟩ rfl hl.1 rfl (Nat.le_of_ble_eq_true rfl) dL_law_898 hcs) (fun H locs hW => ?_)
  refine lv_aload_n C.1 C.2.1 dL_law_901 rfl (lv_at hl 1 rfl) ?_
  refine lv_aload_n C.1 C.2.1 dL_law_902 rfl (lv_at hl 3 rfl) ?_
  refine lv_iload_n C.1 C.2.1 dL_law_903 rfl (lv_at hl 0 rfl) ?_
  refine lv_iconst (v := 1) C.1 C.2.1 dL_law_904 (by decide) ?_
  refine lv_iadd C.1 C.2.1 dL_law_905 ?_
  refine va_sld C.1 C.2.1 hX hbl hbA hW.2 hi1 dL_law_906 ?_
  refine z_ci hW (z_runV C hW [.int (xs (x3 + 1).toNatClampNeg)] [.int v] s12_175.1 s12_175.2.1 kX12.1 kvX12_safe q_1389 (tX12_safe l C.2.2.2.2.2.2.1 s12_175 e2) rfl rfl ⟨by decide, by decide⟩ rfl hl.1 rfl (Nat.le_of_ble_eq_true rfl) dL_law_907 hcs) (fun H locs hW => ?_)
  exact lv_icmp_eq (tgt := 1573) C.1 C.2.1 dL_law_910 (by decide) (fun _ => kk _ _ _ _ hR hW hl) (fun c => absurd rfl c)
set_option maxRecDepth 100000 in
set_option maxHeartbeats 4000000 in
theorem lc_21 (C : Cx p s m meth c #[Value.ref b] code 4 ret RL D ca ad) (hX : va_X b L xs s s.heap) (hbl : b < s.heap.size) (hbA : ¬ AA ad b) (hcs : 197 + 0 ≤ room_1.cells ∧ 6445 + 0 ≤ room_1.slots) (hi1 : vp_in (x3 + 1) L) (hi2 : vp_in (x3 + 2) L) (hi3 : vp_in (x3 + 3) L) (hi4 : vp_in (x3 + 4) L) (hOK : OK_21 N Rel) (hR : Rel mm) (hW : Wd D ca ad s.heap mm H locs) (hl : lv_has ls 4 [(3, .int x3), (2, .ref (ad 175)), (1, .ref (ad 0)), (0, .ref b)]) (kk : ∀ (mm : Mm) (H : Heap) (locs : List Loc) (ls : Array Slot), Rel mm → Wd D ca ad s.heap mm H locs → lv_has ls 4 [(3, .int x3), (2, .ref (ad 175)), (1, .ref (ad 0)), (0, .ref b)] → W p l e room_1 s m #[Value.ref b] below meth c H locs 197 6445 Q (F0 m 1573 ls [])) : W p l e room_1 s m #[Value.ref b] below meth c H locs 197 6445 Q (F0 m 915 ls []) := by
  obtain ⟨v, m1, m2, e1, e2, hR⟩ := hOK (xs (x3 + 1).toNatClampNeg) (xs (x3 + 2).toNatClampNeg) (xs (x3 + 3).toNatClampNeg) (xs (x3 + 4).toNatClampNeg) mm hR
  refine lv_aload_n C.1 C.2.1 dL_law_915 rfl (lv_at hl 2 rfl) ?_
  refine lv_aload_n C.1 C.2.1 dL_law_916 rfl (lv_at hl 3 rfl) ?_
  refine lv_iload_n C.1 C.2.1 dL_law_917 rfl (lv_at hl 0 rfl) ?_
  refine lv_iconst (v := 1) C.1 C.2.1 dL_law_918 (by decide) ?_
  refine lv_iadd C.1 C.2.1 dL_law_919 ?_
  refine va_sld C.1 C.2.1 hX hbl hbA hW.2 hi1 dL_law_920 ?_
  refine lv_aload_n C.1 C.2.1 dL_law_921 rfl (lv_at hl 3 rfl) ?_
  refine lv_iload_n C.1 C.2.1 dL_law_922 rfl (lv_at hl 0 rfl) ?_
  refine lv_iconst (v := 2) C.1 C.2.1 dL_law_923 (by decide) ?_
  refine lv_iadd C.1 C.2.1 dL_law_924 ?_
  refine va_sld C.1 C.2.1 hX hbl hbA hW.2 hi2 dL_law_925 ?_
  refine lv_aload_n C.1 C.2.1 dL_law_926 rfl (lv_at hl 3 rfl) ?_
  refine lv_iload_n C.1 C.2.1 dL_law_927 rfl (lv_at hl 0 rfl) ?_
  refine lv_iconst (v := 3) C.1 C.2.1 dL_law_928 (by decide) ?_
  refine lv_iadd C.1 C.2.1 dL_law_929 ?_
  refine va_sld C.1 C.2.1 hX hbl hbA hW.2 hi3 dL_law_930 ?_
  refine lv_aload_n C.1 C.2.1 dL_law_931 rfl (lv_at hl 3 rfl) ?_
  refine lv_iload_n C.1 C.2.1 dL_law_932 rfl (lv_at hl 0 rfl) ?_
  refine lv_iconst (v := 4) C.1 C.2.1 dL_law_933 (by decide) ?_
  refine lv_iadd C.1 C.2.1 dL_law_934 ?_
  refine va_sld C.1 C.2.1 hX hbl hbA hW.2 hi4 dL_law_935 ?_
  refine z_ci hW (z_runV C hW [.int (xs (x3 + 1).toNatClampNeg), .int (xs (x3 + 2).toNatClampNeg), .int (xs (x3 + 3).toNatClampNeg), .int (xs (x3 + 4).toNatClampNeg)] [] s11_0.1 s11_0.2.1 kX11.1 kvX11_mixed q_709 (tX11_mixed l C.2.2.2.2.2.2.1 s11_0 e1) rfl rfl ⟨by decide, by decide⟩ rfl hl.1 rfl (Nat.le_of_ble_eq_true rfl) dL_law_936 hcs) (fun H locs hW => ?_)
  refine lv_aload_n C.1 C.2.1 dL_law_939 rfl (lv_at hl 1 rfl) ?_
  refine lv_aload_n C.1 C.2.1 dL_law_940 rfl (lv_at hl 3 rfl) ?_
  refine lv_iload_n C.1 C.2.1 dL_law_941 rfl (lv_at hl 0 rfl) ?_
  refine lv_iconst (v := 1) C.1 C.2.1 dL_law_942 (by decide) ?_
  refine lv_iadd C.1 C.2.1 dL_law_943 ?_
  refine va_sld C.1 C.2.1 hX hbl hbA hW.2 hi1 dL_law_944 ?_
  refine lv_aload_n C.1 C.2.1 dL_law_945 rfl (lv_at hl 3 rfl) ?_
  refine lv_iload_n C.1 C.2.1 dL_law_946 rfl (lv_at hl 0 rfl) ?_
  refine lv_iconst (v := 2) C.1 C.2.1 dL_law_947 (by decide) ?_
  refine lv_iadd C.1 C.2.1 dL_law_948 ?_
  refine va_sld C.1 C.2.1 hX hbl hbA hW.2 hi2 dL_law_949 ?_
  refine lv_aload_n C.1 C.2.1 dL_law_950 rfl (lv_at hl 3 rfl) ?_
  refine lv_iload_n C.1 C.2.1 dL_law_951 rfl (lv_at hl 0 rfl) ?_
  refine lv_iconst (v := 3) C.1 C.2.1 dL_law_952 (by decide) ?_
  refine lv_iadd C.1 C.2.1 dL_law_953 ?_
  refine va_sld C.1 C.2.1 hX hbl hbA hW.2 hi3 dL_law_954 ?_
  refine lv_aload_n C.1 C.2.1 dL_law_955 rfl (lv_at hl 3 rfl) ?_
  refine lv_iload_n C.1 C.2.1 dL_law_956 rfl (lv_at hl 0 rfl) ?_
  refine lv_iconst (v := 4) C.1 C.2.1 dL_law_957 (by decide) ?_
  refine lv_iadd C.1 C.2.1 dL_law_958 ?_
  refine va_sld C.1 C.2.1 hX hbl hbA hW.2 hi4 dL_law_959 ?_
  refine z_ci hW (z_runV C hW [.int (xs (x3 + 1).toNatClampNeg), .int (xs (x3 + 2).toNatClampNeg), .int (xs (x3 + 3).toNatClampNeg), .int (xs (x3 + 4).toNatClampNeg)] [.int v] s12_175.1 s12_175.2.1 kX12.1 kvX12_mixed q_1393 (tX12_mixed l C.2.2.2.2.2.2.1 s12_175 e2) rfl rfl ⟨by decide, by decide⟩ rfl hl.1 rfl (Nat.le_of_ble_eq_true rfl) dL_law_960 hcs) (fun H locs hW => ?_)
  exact lv_icmp_eq (tgt := 1573) C.1 C.2.1 dL_law_963 (by decide) (fun _ => kk _ _ _ _ hR hW hl) (fun c => absurd rfl c)
set_option maxRecDepth 100000 in
set_option maxHeartbeats 4000000 in
theorem lc_22 (C : Cx p s m meth c #[Value.ref b] code 4 ret RL D ca ad) (hX : va_X b L xs s s.heap) (hbl : b < s.heap.size) (hbA : ¬ AA ad b) (hcs : 197 + 0 ≤ room_1.cells ∧ 6445 + 0 ≤ room_1.slots) (hi1 : vp_in (x3 + 1) L) (hi2 : vp_in (x3 + 2) L) (hOK : OK_22 N Rel) (hR : Rel mm) (hW : Wd D ca ad s.heap mm H locs) (hl : lv_has ls 4 [(3, .int x3), (2, .ref (ad 175)), (1, .ref (ad 0)), (0, .ref b)]) (kk : ∀ (mm : Mm) (H : Heap) (locs : List Loc) (ls : Array Slot), Rel mm → Wd D ca ad s.heap mm H locs → lv_has ls 4 [(3, .int x3), (2, .ref (ad 175)), (1, .ref (ad 0)), (0, .ref b)] → W p l e room_1 s m #[Value.ref b] below meth c H locs 197 6445 Q (F0 m 1573 ls [])) : W p l e room_1 s m #[Value.ref b] below meth c H locs 197 6445 Q (F0 m 968 ls []) := by
  obtain ⟨v, m1, m2, e1, e2, hR⟩ := hOK (xs (x3 + 1).toNatClampNeg) (xs (x3 + 2).toNatClampNeg) mm hR
  refine lv_aload_n C.1 C.2.1 dL_law_968 rfl (lv_at hl 2 rfl) ?_
  refine lv_aload_n C.1 C.2.1 dL_law_969 rfl (lv_at hl 3 rfl) ?_
  refine lv_iload_n C.1 C.2.1 dL_law_970 rfl (lv_at hl 0 rfl) ?_
  refine lv_iconst (v := 1) C.1 C.2.1 dL_law_971 (by decide) ?_
  refine lv_iadd C.1 C.2.1 dL_law_972 ?_
  refine va_sld C.1 C.2.1 hX hbl hbA hW.2 hi1 dL_law_973 ?_
  refine lv_aload_n C.1 C.2.1 dL_law_974 rfl (lv_at hl 3 rfl) ?_
  refine lv_iload_n C.1 C.2.1 dL_law_975 rfl (lv_at hl 0 rfl) ?_
  refine lv_iconst (v := 2) C.1 C.2.1 dL_law_976 (by decide) ?_
  refine lv_iadd C.1 C.2.1 dL_law_977 ?_
  refine va_sld C.1 C.2.1 hX hbl hbA hW.2 hi2 dL_law_978 ?_
  refine z_ci hW (z_runV C hW [.int (xs (x3 + 1).toNatClampNeg), .int (xs (x3 + 2).toNatClampNeg)] [] s11_0.1 s11_0.2.1 kX11.1 kvX11_mix q_727 (tX11_mix l C.2.2.2.2.2.2.1 s11_0 e1) rfl rfl ⟨by decide, by decide⟩ rfl hl.1 rfl (Nat.le_of_ble_eq_true rfl) dL_law_979 hcs) (fun H locs hW => ?_)
  refine lv_aload_n C.1 C.2.1 dL_law_982 rfl (lv_at hl 1 rfl) ?_
  refine lv_aload_n C.1 C.2.1 dL_law_983 rfl (lv_at hl 3 rfl) ?_
  refine lv_iload_n C.1 C.2.1 dL_law_984 rfl (lv_at hl 0 rfl) ?_
  refine lv_iconst (v := 1) C.1 C.2.1 dL_law_985 (by decide) ?_
  refine lv_iadd C.1 C.2.1 dL_law_986 ?_
  refine va_sld C.1 C.2.1 hX hbl hbA hW.2 hi1 dL_law_987 ?_
  refine lv_aload_n C.1 C.2.1 dL_law_988 rfl (lv_at hl 3 rfl) ?_
  refine lv_iload_n C.1 C.2.1 dL_law_989 rfl (lv_at hl 0 rfl) ?_
  refine lv_iconst (v := 2) C.1 C.2.1 dL_law_990 (by decide) ?_
  refine lv_iadd C.1 C.2.1 dL_law_991 ?_
  refine va_sld C.1 C.2.1 hX hbl hbA hW.2 hi2 dL_law_992 ?_
  refine z_ci hW (z_runV C hW [.int (xs (x3 + 1).toNatClampNeg), .int (xs (x3 + 2).toNatClampNeg)] [.int v] s12_175.1 s12_175.2.1 kX12.1 kvX12_mix q_1406 (tX12_mix l C.2.2.2.2.2.2.1 s12_175 e2) rfl rfl ⟨by decide, by decide⟩ rfl hl.1 rfl (Nat.le_of_ble_eq_true rfl) dL_law_993 hcs) (fun H locs hW => ?_)
  exact lv_icmp_eq (tgt := 1573) C.1 C.2.1 dL_law_996 (by decide) (fun _ => kk _ _ _ _ hR hW hl) (fun c => absurd rfl c)
set_option maxRecDepth 100000 in
set_option maxHeartbeats 4000000 in
theorem lc_23 (C : Cx p s m meth c #[Value.ref b] code 4 ret RL D ca ad) (hX : va_X b L xs s s.heap) (hbl : b < s.heap.size) (hbA : ¬ AA ad b) (hcs : 197 + 0 ≤ room_1.cells ∧ 6445 + 0 ≤ room_1.slots)  (hOK : OK_23 N Rel) (hR : Rel mm) (hW : Wd D ca ad s.heap mm H locs) (hl : lv_has ls 4 [(3, .int x3), (2, .ref (ad 175)), (1, .ref (ad 0)), (0, .ref b)]) (kk : ∀ (mm : Mm) (H : Heap) (locs : List Loc) (ls : Array Slot), Rel mm → Wd D ca ad s.heap mm H locs → lv_has ls 4 [(3, .int x3), (2, .ref (ad 175)), (1, .ref (ad 0)), (0, .ref b)] → W p l e room_1 s m #[Value.ref b] below meth c H locs 197 6445 Q (F0 m 1573 ls [])) : W p l e room_1 s m #[Value.ref b] below meth c H locs 197 6445 Q (F0 m 1001 ls []) := by
  obtain ⟨v, m1, m2, e1, e2, hR⟩ := hOK  mm hR
  refine lv_aload_n C.1 C.2.1 dL_law_1001 rfl (lv_at hl 2 rfl) ?_
  refine z_ci hW (z_runV C hW [] [] s11_0.1 s11_0.2.1 kX11.1 kvX11_turns q_737 (tX11_turns l C.2.2.2.2.2.2.1 s11_0 e1) rfl rfl ⟨by decide, by decide⟩ rfl hl.1 rfl (Nat.le_of_ble_eq_true rfl) dL_law_1002 hcs) (fun H locs hW => ?_)
  refine lv_aload_n C.1 C.2.1 dL_law_1005 rfl (lv_at hl 1 rfl) ?_
  refine z_ci hW (z_runV C hW [] [.int v] s12_175.1 s12_175.2.1 kX12.1 kvX12_turns q_1411 (tX12_turns l C.2.2.2.2.2.2.1 s12_175 e2) rfl rfl ⟨by decide, by decide⟩ rfl hl.1 rfl (Nat.le_of_ble_eq_true rfl) dL_law_1006 hcs) (fun H locs hW => ?_)
  exact lv_icmp_eq (tgt := 1573) C.1 C.2.1 dL_law_1009 (by decide) (fun _ => kk _ _ _ _ hR hW hl) (fun c => absurd rfl c)
set_option maxRecDepth 100000 in
set_option maxHeartbeats 4000000 in
theorem lc_24 (C : Cx p s m meth c #[Value.ref b] code 4 ret RL D ca ad) (hX : va_X b L xs s s.heap) (hbl : b < s.heap.size) (hbA : ¬ AA ad b) (hcs : 197 + 0 ≤ room_1.cells ∧ 6445 + 0 ≤ room_1.slots) (hi1 : vp_in (x3 + 1) L) (hi2 : vp_in (x3 + 2) L) (hi3 : vp_in (x3 + 3) L) (hOK : OK_24 N Rel) (hR : Rel mm) (hW : Wd D ca ad s.heap mm H locs) (hl : lv_has ls 4 [(3, .int x3), (2, .ref (ad 175)), (1, .ref (ad 0)), (0, .ref b)]) (kk : ∀ (mm : Mm) (H : Heap) (locs : List Loc) (ls : Array Slot), Rel mm → Wd D ca ad s.heap mm H locs → lv_has ls 4 [(3, .int x3), (2, .ref (ad 175)), (1, .ref (ad 0)), (0, .ref b)] → W p l e room_1 s m #[Value.ref b] below meth c H locs 197 6445 Q (F0 m 1573 ls [])) : W p l e room_1 s m #[Value.ref b] below meth c H locs 197 6445 Q (F0 m 1014 ls []) := by
  obtain ⟨v, m1, m2, e1, e2, hR⟩ := hOK (xs (x3 + 1).toNatClampNeg) (xs (x3 + 2).toNatClampNeg) (xs (x3 + 3).toNatClampNeg) mm hR
  refine lv_aload_n C.1 C.2.1 dL_law_1014 rfl (lv_at hl 2 rfl) ?_
  refine lv_aload_n C.1 C.2.1 dL_law_1015 rfl (lv_at hl 3 rfl) ?_
  refine lv_iload_n C.1 C.2.1 dL_law_1016 rfl (lv_at hl 0 rfl) ?_
  refine lv_iconst (v := 1) C.1 C.2.1 dL_law_1017 (by decide) ?_
  refine lv_iadd C.1 C.2.1 dL_law_1018 ?_
  refine va_sld C.1 C.2.1 hX hbl hbA hW.2 hi1 dL_law_1019 ?_
  refine lv_aload_n C.1 C.2.1 dL_law_1020 rfl (lv_at hl 3 rfl) ?_
  refine lv_iload_n C.1 C.2.1 dL_law_1021 rfl (lv_at hl 0 rfl) ?_
  refine lv_iconst (v := 2) C.1 C.2.1 dL_law_1022 (by decide) ?_
  refine lv_iadd C.1 C.2.1 dL_law_1023 ?_
  refine va_sld C.1 C.2.1 hX hbl hbA hW.2 hi2 dL_law_1024 ?_
  refine lv_aload_n C.1 C.2.1 dL_law_1025 rfl (lv_at hl 3 rfl) ?_
  refine lv_iload_n C.1 C.2.1 dL_law_1026 rfl (lv_at hl 0 rfl) ?_
  refine lv_iconst (v := 3) C.1 C.2.1 dL_law_1027 (by decide) ?_
  refine lv_iadd C.1 C.2.1 dL_law_1028 ?_
  refine va_sld C.1 C.2.1 hX hbl hbA hW.2 hi3 dL_law_1029 ?_
  refine z_ci hW (z_runV C hW [.int (xs (x3 + 1).toNatClampNeg), .int (xs (x3 + 2).toNatClampNeg), .int (xs (x3 + 3).toNatClampNeg)] [] s11_0.1 s11_0.2.1 kX11.1 kvX11_from q_781 (tX11_from l C.2.2.2.2.2.2.1 s11_0 e1) rfl rfl ⟨by decide, by decide⟩ rfl hl.1 rfl (Nat.le_of_ble_eq_true rfl) dL_law_1030 hcs) (fun H locs hW => ?_)
  refine lv_aload_n C.1 C.2.1 dL_law_1033 rfl (lv_at hl 1 rfl) ?_
  refine lv_aload_n C.1 C.2.1 dL_law_1034 rfl (lv_at hl 3 rfl) ?_
  refine lv_iload_n C.1 C.2.1 dL_law_1035 rfl (lv_at hl 0 rfl) ?_
  refine lv_iconst (v := 1) C.1 C.2.1 dL_law_1036 (by decide) ?_
  refine lv_iadd C.1 C.2.1 dL_law_1037 ?_
  refine va_sld C.1 C.2.1 hX hbl hbA hW.2 hi1 dL_law_1038 ?_
  refine lv_aload_n C.1 C.2.1 dL_law_1039 rfl (lv_at hl 3 rfl) ?_
  refine lv_iload_n C.1 C.2.1 dL_law_1040 rfl (lv_at hl 0 rfl) ?_
  refine lv_iconst (v := 2) C.1 C.2.1 dL_law_1041 (by decide) ?_
  refine lv_iadd C.1 C.2.1 dL_law_1042 ?_
  refine va_sld C.1 C.2.1 hX hbl hbA hW.2 hi2 dL_law_1043 ?_
  refine lv_aload_n C.1 C.2.1 dL_law_1044 rfl (lv_at hl 3 rfl) ?_
  refine lv_iload_n C.1 C.2.1 dL_law_1045 rfl (lv_at hl 0 rfl) ?_
  refine lv_iconst (v := 3) C.1 C.2.1 dL_law_1046 (by decide) ?_
  refine lv_iadd C.1 C.2.1 dL_law_1047 ?_
  refine va_sld C.1 C.2.1 hX hbl hbA hW.2 hi3 dL_law_1048 ?_
  refine z_ci hW (z_runV C hW [.int (xs (x3 + 1).toNatClampNeg), .int (xs (x3 + 2).toNatClampNeg), .int (xs (x3 + 3).toNatClampNeg)] [.int v] s12_175.1 s12_175.2.1 kX12.1 kvX12_from q_1435 (tX12_from l C.2.2.2.2.2.2.1 s12_175 e2) rfl rfl ⟨by decide, by decide⟩ rfl hl.1 rfl (Nat.le_of_ble_eq_true rfl) dL_law_1049 hcs) (fun H locs hW => ?_)
  exact lv_icmp_eq (tgt := 1573) C.1 C.2.1 dL_law_1052 (by decide) (fun _ => kk _ _ _ _ hR hW hl) (fun c => absurd rfl c)
set_option maxRecDepth 100000 in
set_option maxHeartbeats 4000000 in
theorem lc_25 (C : Cx p s m meth c #[Value.ref b] code 4 ret RL D ca ad) (hX : va_X b L xs s s.heap) (hbl : b < s.heap.size) (hbA : ¬ AA ad b) (hcs : 197 + 0 ≤ room_1.cells ∧ 6445 + 0 ≤ room_1.slots) (hi1 : vp_in (x3 + 1) L) (hi2 : vp_in (x3 + 2) L) (hi3 : vp_in (x3 + 3) L) (hi4 : vp_in (x3 + 4) L) (hOK : OK_25 N Rel) (hR : Rel mm) (hW : Wd D ca ad s.heap mm H locs) (hl : lv_has ls 4 [(3, .int x3), (2, .ref (ad 175)), (1, .ref (ad 0)), (0, .ref b)]) (kk : ∀ (mm : Mm) (H : Heap) (locs : List Loc) (ls : Array Slot), Rel mm → Wd D ca ad s.heap mm H locs → lv_has ls 4 [(3, .int x3), (2, .ref (ad 175)), (1, .ref (ad 0)), (0, .ref b)] → W p l e room_1 s m #[Value.ref b] below meth c H locs 197 6445 Q (F0 m 1573 ls [])) : W p l e room_1 s m #[Value.ref b] below meth c H locs 197 6445 Q (F0 m 1057 ls []) := by
  obtain ⟨v, m1, m2, e1, e2, hR⟩ := hOK (xs (x3 + 1).toNatClampNeg) (xs (x3 + 2).toNatClampNeg) (xs (x3 + 3).toNatClampNeg) (xs (x3 + 4).toNatClampNeg) mm hR
  refine lv_aload_n C.1 C.2.1 dL_law_1057 rfl (lv_at hl 2 rfl) ?_
  refine lv_aload_n C.1 C.2.1 dL_law_1058 rfl (lv_at hl 3 rfl) ?_
  refine lv_iload_n C.1 C.2.1 dL_law_1059 rfl (lv_at hl 0 rfl) ?_
  refine lv_iconst (v := 1) C.1 C.2.1 dL_law_1060 (by decide) ?_
  refine lv_iadd C.1 C.2.1 dL_law_1061 ?_
  refine va_sld C.1 C.2.1 hX hbl hbA hW.2 hi1 dL_law_1062 ?_
  refine lv_aload_n C.1 C.2.1 dL_law_1063 rfl (lv_at hl 3 rfl) ?_
  refine lv_iload_n C.1 C.2.1 dL_law_1064 rfl (lv_at hl 0 rfl) ?_
  refine lv_iconst (v := 2) C.1 C.2.1 dL_law_1065 (by decide) ?_
  refine lv_iadd C.1 C.2.1 dL_law_1066 ?_
  refine va_sld C.1 C.2.1 hX hbl hbA hW.2 hi2 dL_law_1067 ?_
  refine lv_aload_n C.1 C.2.1 dL_law_1068 rfl (lv_at hl 3 rfl) ?_
  refine lv_iload_n C.1 C.2.1 dL_law_1069 rfl (lv_at hl 0 rfl) ?_
  refine lv_iconst (v := 3) C.1 C.2.1 dL_law_1070 (by decide) ?_
  refine lv_iadd C.1 C.2.1 dL_law_1071 ?_
  refine va_sld C.1 C.2.1 hX hbl hbA hW.2 hi3 dL_law_1072 ?_
  refine lv_aload_n C.1 C.2.1 dL_law_1073 rfl (lv_at hl 3 rfl) ?_
  refine lv_iload_n C.1 C.2.1 dL_law_1074 rfl (lv_at hl 0 rfl) ?_
  refine lv_iconst (v := 4) C.1 C.2.1 dL_law_1075 (by decide) ?_
  refine lv_iadd C.1 C.2.1 dL_law_1076 ?_
  refine va_sld C.1 C.2.1 hX hbl hbA hW.2 hi4 dL_law_1077 ?_
  refine z_ci hW (z_runV C hW [.int (xs (x3 + 1).toNatClampNeg), .int (xs (x3 + 2).toNatClampNeg), .int (xs (x3 + 3).toNatClampNeg), .int (xs (x3 + 4).toNatClampNeg)] [] s11_0.1 s11_0.2.1 kX11.1 kvX11_answer q_788 (tX11_answer l C.2.2.2.2.2.2.1 s11_0 e1) rfl rfl ⟨by decide, by decide⟩ rfl hl.1 rfl (Nat.le_of_ble_eq_true rfl) dL_law_1078 hcs) (fun H locs hW => ?_)
  refine lv_aload_n C.1 C.2.1 dL_law_1081 rfl (lv_at hl 1 rfl) ?_
  refine lv_aload_n C.1 C.2.1 dL_law_1082 rfl (lv_at hl 3 rfl) ?_
  refine lv_iload_n C.1 C.2.1 dL_law_1083 rfl (lv_at hl 0 rfl) ?_
  refine lv_iconst (v := 1) C.1 C.2.1 dL_law_1084 (by decide) ?_
  refine lv_iadd C.1 C.2.1 dL_law_1085 ?_
  refine va_sld C.1 C.2.1 hX hbl hbA hW.2 hi1 dL_law_1086 ?_
  refine lv_aload_n C.1 C.2.1 dL_law_1087 rfl (lv_at hl 3 rfl) ?_
  refine lv_iload_n C.1 C.2.1 dL_law_1088 rfl (lv_at hl 0 rfl) ?_
  refine lv_iconst (v := 2) C.1 C.2.1 dL_law_1089 (by decide) ?_
  refine lv_iadd C.1 C.2.1 dL_law_1090 ?_
  refine va_sld C.1 C.2.1 hX hbl hbA hW.2 hi2 dL_law_1091 ?_
  refine lv_aload_n C.1 C.2.1 dL_law_1092 rfl (lv_at hl 3 rfl) ?_
  refine lv_iload_n C.1 C.2.1 dL_law_1093 rfl (lv_at hl 0 rfl) ?_
  refine lv_iconst (v := 3) C.1 C.2.1 dL_law_1094 (by decide) ?_
  refine lv_iadd C.1 C.2.1 dL_law_1095 ?_
  refine va_sld C.1 C.2.1 hX hbl hbA hW.2 hi3 dL_law_1096 ?_
  refine lv_aload_n C.1 C.2.1 dL_law_1097 rfl (lv_at hl 3 rfl) ?_
  refine lv_iload_n C.1 C.2.1 dL_law_1098 rfl (lv_at hl 0 rfl) ?_
  refine lv_iconst (v := 4) C.1 C.2.1 dL_law_1099 (by decide) ?_
  refine lv_iadd C.1 C.2.1 dL_law_1100 ?_
  refine va_sld C.1 C.2.1 hX hbl hbA hW.2 hi4 dL_law_1101 ?_
  refine z_ci hW (z_runV C hW [.int (xs (x3 + 1).toNatClampNeg), .int (xs (x3 + 2).toNatClampNeg), .int (xs (x3 + 3).toNatClampNeg), .int (xs (x3 + 4).toNatClampNeg)] [.int v] s12_175.1 s12_175.2.1 kX12.1 kvX12_answer q_1442 (tX12_answer l C.2.2.2.2.2.2.1 s12_175 e2) rfl rfl ⟨by decide, by decide⟩ rfl hl.1 rfl (Nat.le_of_ble_eq_true rfl) dL_law_1102 hcs) (fun H locs hW => ?_)
  exact lv_icmp_eq (tgt := 1573) C.1 C.2.1 dL_law_1105 (by decide) (fun _ => kk _ _ _ _ hR hW hl) (fun c => absurd rfl c)
set_option maxRecDepth 100000 in
set_option maxHeartbeats 4000000 in
theorem lc_26 (C : Cx p s m meth c #[Value.ref b] code 4 ret RL D ca ad) (hX : va_X b L xs s s.heap) (hbl : b < s.heap.size) (hbA : ¬ AA ad b) (hcs : 197 + 0 ≤ room_1.cells ∧ 6445 + 0 ≤ room_1.slots) (hi1 : vp_in (x3 + 1) L) (hi2 : vp_in (x3 + 2) L) (hOK : OK_26 N Rel) (hR : Rel mm) (hW : Wd D ca ad s.heap mm H locs) (hl : lv_has ls 4 [(3, .int x3), (2, .ref (ad 175)), (1, .ref (ad 0)), (0, .ref b)]) (kk : ∀ (mm : Mm) (H : Heap) (locs : List Loc) (ls : Array Slot), Rel mm → Wd D ca ad s.heap mm H locs → lv_has ls 4 [(3, .int x3), (2, .ref (ad 175)), (1, .ref (ad 0)), (0, .ref b)] → W p l e room_1 s m #[Value.ref b] below meth c H locs 197 6445 Q (F0 m 1573 ls [])) : W p l e room_1 s m #[Value.ref b] below meth c H locs 197 6445 Q (F0 m 1110 ls []) := by
  obtain ⟨v, m1, m2, e1, e2, hR⟩ := hOK (xs (x3 + 1).toNatClampNeg) (xs (x3 + 2).toNatClampNeg) mm hR
  refine lv_aload_n C.1 C.2.1 dL_law_1110 rfl (lv_at hl 2 rfl) ?_
  refine lv_aload_n C.1 C.2.1 dL_law_1111 rfl (lv_at hl 3 rfl) ?_
  refine lv_iload_n C.1 C.2.1 dL_law_1112 rfl (lv_at hl 0 rfl) ?_
  refine lv_iconst (v := 1) C.1 C.2.1 dL_law_1113 (by decide) ?_
  refine lv_iadd C.1 C.2.1 dL_law_1114 ?_
  refine va_sld C.1 C.2.1 hX hbl hbA hW.2 hi1 dL_law_1115 ?_
  refine lv_aload_n C.1 C.2.1 dL_law_1116 rfl (lv_at hl 3 rfl) ?_
  refine lv_iload_n C.1 C.2.1 dL_law_1117 rfl (lv_at hl 0 rfl) ?_
  refine lv_iconst (v := 2) C.1 C.2.1 dL_law_1118 (by decide) ?_
  refine lv_iadd C.1 C.2.1 dL_law_1119 ?_
  refine va_sld C.1 C.2.1 hX hbl hbA hW.2 hi2 dL_law_1120 ?_
  refine z_ci hW (z_runV C hW [.int (xs (x3 + 1).toNatClampNeg), .int (xs (x3 + 2).toNatClampNeg)] [] s11_0.1 s11_0.2.1 kX11.1 kvX11_lender q_796 (tX11_lender l C.2.2.2.2.2.2.1 s11_0 e1) rfl rfl ⟨by decide, by decide⟩ rfl hl.1 rfl (Nat.le_of_ble_eq_true rfl) dL_law_1121 hcs) (fun H locs hW => ?_)
  refine lv_aload_n C.1 C.2.1 dL_law_1124 rfl (lv_at hl 1 rfl) ?_
  refine lv_aload_n C.1 C.2.1 dL_law_1125 rfl (lv_at hl 3 rfl) ?_
  refine lv_iload_n C.1 C.2.1 dL_law_1126 rfl (lv_at hl 0 rfl) ?_
  refine lv_iconst (v := 1) C.1 C.2.1 dL_law_1127 (by decide) ?_
  refine lv_iadd C.1 C.2.1 dL_law_1128 ?_
  refine va_sld C.1 C.2.1 hX hbl hbA hW.2 hi1 dL_law_1129 ?_
  refine lv_aload_n C.1 C.2.1 dL_law_1130 rfl (lv_at hl 3 rfl) ?_
  refine lv_iload_n C.1 C.2.1 dL_law_1131 rfl (lv_at hl 0 rfl) ?_
  refine lv_iconst (v := 2) C.1 C.2.1 dL_law_1132 (by decide) ?_
  refine lv_iadd C.1 C.2.1 dL_law_1133 ?_
  refine va_sld C.1 C.2.1 hX hbl hbA hW.2 hi2 dL_law_1134 ?_
  refine z_ci hW (z_runV C hW [.int (xs (x3 + 1).toNatClampNeg), .int (xs (x3 + 2).toNatClampNeg)] [.int v] s12_175.1 s12_175.2.1 kX12.1 kvX12_lender q_1446 (tX12_lender l C.2.2.2.2.2.2.1 s12_175 e2) rfl rfl ⟨by decide, by decide⟩ rfl hl.1 rfl (Nat.le_of_ble_eq_true rfl) dL_law_1135 hcs) (fun H locs hW => ?_)
  exact lv_icmp_eq (tgt := 1573) C.1 C.2.1 dL_law_1138 (by decide) (fun _ => kk _ _ _ _ hR hW hl) (fun c => absurd rfl c)
set_option maxRecDepth 100000 in
set_option maxHeartbeats 4000000 in
theorem lc_27 (C : Cx p s m meth c #[Value.ref b] code 4 ret RL D ca ad) (hX : va_X b L xs s s.heap) (hbl : b < s.heap.size) (hbA : ¬ AA ad b) (hcs : 197 + 0 ≤ room_1.cells ∧ 6445 + 0 ≤ room_1.slots) (hi1 : vp_in (x3 + 1) L) (hi2 : vp_in (x3 + 2) L) (hOK : OK_27 N Rel) (hR : Rel mm) (hW : Wd D ca ad s.heap mm H locs) (hl : lv_has ls 4 [(3, .int x3), (2, .ref (ad 175)), (1, .ref (ad 0)), (0, .ref b)]) (kk : ∀ (mm : Mm) (H : Heap) (locs : List Loc) (ls : Array Slot), Rel mm → Wd D ca ad s.heap mm H locs → lv_has ls 4 [(3, .int x3), (2, .ref (ad 175)), (1, .ref (ad 0)), (0, .ref b)] → W p l e room_1 s m #[Value.ref b] below meth c H locs 197 6445 Q (F0 m 1573 ls [])) : W p l e room_1 s m #[Value.ref b] below meth c H locs 197 6445 Q (F0 m 1143 ls []) := by
  obtain ⟨v, m1, m2, e1, e2, hR⟩ := hOK (xs (x3 + 1).toNatClampNeg) (xs (x3 + 2).toNatClampNeg) mm hR
  refine lv_aload_n C.1 C.2.1 dL_law_1143 rfl (lv_at hl 2 rfl) ?_
  refine lv_aload_n C.1 C.2.1 dL_law_1144 rfl (lv_at hl 3 rfl) ?_
  refine lv_iload_n C.1 C.2.1 dL_law_1145 rfl (lv_at hl 0 rfl) ?_
  refine lv_iconst (v := 1) C.1 C.2.1 dL_law_1146 (by decide) ?_
  refine lv_iadd C.1 C.2.1 dL_law_1147 ?_
  refine va_sld C.1 C.2.1 hX hbl hbA hW.2 hi1 dL_law_1148 ?_
  refine lv_aload_n C.1 C.2.1 dL_law_1149 rfl (lv_at hl 3 rfl) ?_
  refine lv_iload_n C.1 C.2.1 dL_law_1150 rfl (lv_at hl 0 rfl) ?_
  refine lv_iconst (v := 2) C.1 C.2.1 dL_law_1151 (by decide) ?_
  refine lv_iadd C.1 C.2.1 dL_law_1152 ?_
  refine va_sld C.1 C.2.1 hX hbl hbA hW.2 hi2 dL_law_1153 ?_
  refine z_ci hW (z_runV C hW [.int (xs (x3 + 1).toNatClampNeg), .int (xs (x3 + 2).toNatClampNeg)] [] s11_0.1 s11_0.2.1 kX11.1 kvX11_lend q_800 (tX11_lend l C.2.2.2.2.2.2.1 s11_0 e1) rfl rfl ⟨by decide, by decide⟩ rfl hl.1 rfl (Nat.le_of_ble_eq_true rfl) dL_law_1154 hcs) (fun H locs hW => ?_)
  refine lv_aload_n C.1 C.2.1 dL_law_1157 rfl (lv_at hl 1 rfl) ?_
  refine lv_aload_n C.1 C.2.1 dL_law_1158 rfl (lv_at hl 3 rfl) ?_
  refine lv_iload_n C.1 C.2.1 dL_law_1159 rfl (lv_at hl 0 rfl) ?_
  refine lv_iconst (v := 1) C.1 C.2.1 dL_law_1160 (by decide) ?_
  refine lv_iadd C.1 C.2.1 dL_law_1161 ?_
  refine va_sld C.1 C.2.1 hX hbl hbA hW.2 hi1 dL_law_1162 ?_
  refine lv_aload_n C.1 C.2.1 dL_law_1163 rfl (lv_at hl 3 rfl) ?_
  refine lv_iload_n C.1 C.2.1 dL_law_1164 rfl (lv_at hl 0 rfl) ?_
  refine lv_iconst (v := 2) C.1 C.2.1 dL_law_1165 (by decide) ?_
  refine lv_iadd C.1 C.2.1 dL_law_1166 ?_
  refine va_sld C.1 C.2.1 hX hbl hbA hW.2 hi2 dL_law_1167 ?_
  refine z_ci hW (z_runV C hW [.int (xs (x3 + 1).toNatClampNeg), .int (xs (x3 + 2).toNatClampNeg)] [.int v] s12_175.1 s12_175.2.1 kX12.1 kvX12_lend q_1450 (tX12_lend l C.2.2.2.2.2.2.1 s12_175 e2) rfl rfl ⟨by decide, by decide⟩ rfl hl.1 rfl (Nat.le_of_ble_eq_true rfl) dL_law_1168 hcs) (fun H locs hW => ?_)
  exact lv_icmp_eq (tgt := 1573) C.1 C.2.1 dL_law_1171 (by decide) (fun _ => kk _ _ _ _ hR hW hl) (fun c => absurd rfl c)
set_option maxRecDepth 100000 in
set_option maxHeartbeats 4000000 in
theorem lc_28 (C : Cx p s m meth c #[Value.ref b] code 4 ret RL D ca ad) (hX : va_X b L xs s s.heap) (hbl : b < s.heap.size) (hbA : ¬ AA ad b) (hcs : 197 + 0 ≤ room_1.cells ∧ 6445 + 0 ≤ room_1.slots) (hi1 : vp_in (x3 + 1) L) (hi2 : vp_in (x3 + 2) L) (hOK : OK_28 N Rel) (hR : Rel mm) (hW : Wd D ca ad s.heap mm H locs) (hl : lv_has ls 4 [(3, .int x3), (2, .ref (ad 175)), (1, .ref (ad 0)), (0, .ref b)]) (kk : ∀ (mm : Mm) (H : Heap) (locs : List Loc) (ls : Array Slot), Rel mm → Wd D ca ad s.heap mm H locs → lv_has ls 4 [(3, .int x3), (2, .ref (ad 175)), (1, .ref (ad 0)), (0, .ref b)] → W p l e room_1 s m #[Value.ref b] below meth c H locs 197 6445 Q (F0 m 1573 ls [])) : W p l e room_1 s m #[Value.ref b] below meth c H locs 197 6445 Q (F0 m 1176 ls []) := by
  obtain ⟨v, m1, m2, e1, e2, hR⟩ := hOK (xs (x3 + 1).toNatClampNeg) (xs (x3 + 2).toNatClampNeg) mm hR
  refine lv_aload_n C.1 C.2.1 dL_law_1176 rfl (lv_at hl 2 rfl) ?_
  refine lv_aload_n C.1 C.2.1 dL_law_1177 rfl (lv_at hl 3 rfl) ?_
  refine lv_iload_n C.1 C.2.1 dL_law_1178 rfl (lv_at hl 0 rfl) ?_
  refine lv_iconst (v := 1) C.1 C.2.1 dL_law_1179 (by decide) ?_
  refine lv_iadd C.1 C.2.1 dL_law_1180 ?_
  refine va_sld C.1 C.2.1 hX hbl hbA hW.2 hi1 dL_law_1181 ?_
  refine lv_aload_n C.1 C.2.1 dL_law_1182 rfl (lv_at hl 3 rfl) ?_
  refine lv_iload_n C.1 C.2.1 dL_law_1183 rfl (lv_at hl 0 rfl) ?_
  refine lv_iconst (v := 2) C.1 C.2.1 dL_law_1184 (by decide) ?_
  refine lv_iadd C.1 C.2.1 dL_law_1185 ?_
  refine va_sld C.1 C.2.1 hX hbl hbA hW.2 hi2 dL_law_1186 ?_
  refine z_ci hW (z_runV C hW [.int (xs (x3 + 1).toNatClampNeg), .int (xs (x3 + 2).toNatClampNeg)] [] s11_0.1 s11_0.2.1 kX11.1 kvX11_leaves q_812 (tX11_leaves l C.2.2.2.2.2.2.1 s11_0 e1) rfl rfl ⟨by decide, by decide⟩ rfl hl.1 rfl (Nat.le_of_ble_eq_true rfl) dL_law_1187 hcs) (fun H locs hW => ?_)
  refine lv_aload_n C.1 C.2.1 dL_law_1190 rfl (lv_at hl 1 rfl) ?_
  refine lv_aload_n C.1 C.2.1 dL_law_1191 rfl (lv_at hl 3 rfl) ?_
  refine lv_iload_n C.1 C.2.1 dL_law_1192 rfl (lv_at hl 0 rfl) ?_
  refine lv_iconst (v := 1) C.1 C.2.1 dL_law_1193 (by decide) ?_
  refine lv_iadd C.1 C.2.1 dL_law_1194 ?_
  refine va_sld C.1 C.2.1 hX hbl hbA hW.2 hi1 dL_law_1195 ?_
  refine lv_aload_n C.1 C.2.1 dL_law_1196 rfl (lv_at hl 3 rfl) ?_
  refine lv_iload_n C.1 C.2.1 dL_law_1197 rfl (lv_at hl 0 rfl) ?_
  refine lv_iconst (v := 2) C.1 C.2.1 dL_law_1198 (by decide) ?_
  refine lv_iadd C.1 C.2.1 dL_law_1199 ?_
  refine va_sld C.1 C.2.1 hX hbl hbA hW.2 hi2 dL_law_1200 ?_
  refine z_ci hW (z_runV C hW [.int (xs (x3 + 1).toNatClampNeg), .int (xs (x3 + 2).toNatClampNeg)] [.int v] s12_175.1 s12_175.2.1 kX12.1 kvX12_leaves q_1466 (tX12_leaves l C.2.2.2.2.2.2.1 s12_175 e2) rfl rfl ⟨by decide, by decide⟩ rfl hl.1 rfl (Nat.le_of_ble_eq_true rfl) dL_law_1201 hcs) (fun H locs hW => ?_)
  exact lv_icmp_eq (tgt := 1573) C.1 C.2.1 dL_law_1204 (by decide) (fun _ => kk _ _ _ _ hR hW hl) (fun c => absurd rfl c)
set_option maxRecDepth 100000 in
set_option maxHeartbeats 4000000 in
theorem lc_29 (C : Cx p s m meth c #[Value.ref b] code 4 ret RL D ca ad) (hX : va_X b L xs s s.heap) (hbl : b < s.heap.size) (hbA : ¬ AA ad b) (hcs : 197 + 0 ≤ room_1.cells ∧ 6445 + 0 ≤ room_1.slots) (hi1 : vp_in (x3 + 1) L) (hi2 : vp_in (x3 + 2) L) (hOK : OK_29 N Rel) (hR : Rel mm) (hW : Wd D ca ad s.heap mm H locs) (hl : lv_has ls 4 [(3, .int x3), (2, .ref (ad 175)), (1, .ref (ad 0)), (0, .ref b)]) (kk : ∀ (mm : Mm) (H : Heap) (locs : List Loc) (ls : Array Slot), Rel mm → Wd D ca ad s.heap mm H locs → lv_has ls 4 [(3, .int x3), (2, .ref (ad 175)), (1, .ref (ad 0)), (0, .ref b)] → W p l e room_1 s m #[Value.ref b] below meth c H locs 197 6445 Q (F0 m 1573 ls [])) : W p l e room_1 s m #[Value.ref b] below meth c H locs 197 6445 Q (F0 m 1209 ls []) := by
  obtain ⟨v, m1, m2, e1, e2, hR⟩ := hOK (xs (x3 + 1).toNatClampNeg) (xs (x3 + 2).toNatClampNeg) mm hR
  refine lv_aload_n C.1 C.2.1 dL_law_1209 rfl (lv_at hl 2 rfl) ?_
  refine lv_aload_n C.1 C.2.1 dL_law_1210 rfl (lv_at hl 3 rfl) ?_
  refine lv_iload_n C.1 C.2.1 dL_law_1211 rfl (lv_at hl 0 rfl) ?_
  refine lv_iconst (v := 1) C.1 C.2.1 dL_law_1212 (by decide) ?_
  refine lv_iadd C.1 C.2.1 dL_law_1213 ?_
  refine va_sld C.1 C.2.1 hX hbl hbA hW.2 hi1 dL_law_1214 ?_
  refine lv_aload_n C.1 C.2.1 dL_law_1215 rfl (lv_at hl 3 rfl) ?_
  refine lv_iload_n C.1 C.2.1 dL_law_1216 rfl (lv_at hl 0 rfl) ?_
  refine lv_iconst (v := 2) C.1 C.2.1 dL_law_1217 (by decide) ?_
  refine lv_iadd C.1 C.2.1 dL_law_1218 ?_
  refine va_sld C.1 C.2.1 hX hbl hbA hW.2 hi2 dL_law_1219 ?_
  refine z_ci hW (z_runV C hW [.int (xs (x3 + 1).toNatClampNeg), .int (xs (x3 + 2).toNatClampNeg)] [] s11_0.1 s11_0.2.1 kX11.1 kvX11_adds q_824 (tX11_adds l C.2.2.2.2.2.2.1 s11_0 e1) rfl rfl ⟨by decide, by decide⟩ rfl hl.1 rfl (Nat.le_of_ble_eq_true rfl) dL_law_1220 hcs) (fun H locs hW => ?_)
  refine lv_aload_n C.1 C.2.1 dL_law_1223 rfl (lv_at hl 1 rfl) ?_
  refine lv_aload_n C.1 C.2.1 dL_law_1224 rfl (lv_at hl 3 rfl) ?_
  refine lv_iload_n C.1 C.2.1 dL_law_1225 rfl (lv_at hl 0 rfl) ?_
  refine lv_iconst (v := 1) C.1 C.2.1 dL_law_1226 (by decide) ?_
  refine lv_iadd C.1 C.2.1 dL_law_1227 ?_
  refine va_sld C.1 C.2.1 hX hbl hbA hW.2 hi1 dL_law_1228 ?_
  refine lv_aload_n C.1 C.2.1 dL_law_1229 rfl (lv_at hl 3 rfl) ?_
  refine lv_iload_n C.1 C.2.1 dL_law_1230 rfl (lv_at hl 0 rfl) ?_
  refine lv_iconst (v := 2) C.1 C.2.1 dL_law_1231 (by decide) ?_
  refine lv_iadd C.1 C.2.1 dL_law_1232 ?_
  refine va_sld C.1 C.2.1 hX hbl hbA hW.2 hi2 dL_law_1233 ?_
  refine z_ci hW (z_runV C hW [.int (xs (x3 + 1).toNatClampNeg), .int (xs (x3 + 2).toNatClampNeg)] [.int v] s12_175.1 s12_175.2.1 kX12.1 kvX12_adds q_1470 (tX12_adds l C.2.2.2.2.2.2.1 s12_175 e2) rfl rfl ⟨by decide, by decide⟩ rfl hl.1 rfl (Nat.le_of_ble_eq_true rfl) dL_law_1234 hcs) (fun H locs hW => ?_)
  exact lv_icmp_eq (tgt := 1573) C.1 C.2.1 dL_law_1237 (by decide) (fun _ => kk _ _ _ _ hR hW hl) (fun c => absurd rfl c)
set_option maxRecDepth 100000 in
set_option maxHeartbeats 4000000 in
theorem lc_30 (C : Cx p s m meth c #[Value.ref b] code 4 ret RL D ca ad) (hX : va_X b L xs s s.heap) (hbl : b < s.heap.size) (hbA : ¬ AA ad b) (hcs : 197 + 0 ≤ room_1.cells ∧ 6445 + 0 ≤ room_1.slots) (hi1 : vp_in (x3 + 1) L) (hOK : OK_30 N Rel) (hR : Rel mm) (hW : Wd D ca ad s.heap mm H locs) (hl : lv_has ls 4 [(3, .int x3), (2, .ref (ad 175)), (1, .ref (ad 0)), (0, .ref b)]) (kk : ∀ (mm : Mm) (H : Heap) (locs : List Loc) (ls : Array Slot), Rel mm → Wd D ca ad s.heap mm H locs → lv_has ls 4 [(3, .int x3), (2, .ref (ad 175)), (1, .ref (ad 0)), (0, .ref b)] → W p l e room_1 s m #[Value.ref b] below meth c H locs 197 6445 Q (F0 m 1573 ls [])) : W p l e room_1 s m #[Value.ref b] below meth c H locs 197 6445 Q (F0 m 1242 ls []) := by
  obtain ⟨v, m1, m2, e1, e2, hR⟩ := hOK (xs (x3 + 1).toNatClampNeg) mm hR
  refine lv_aload_n C.1 C.2.1 dL_law_1242 rfl (lv_at hl 2 rfl) ?_
  refine lv_aload_n C.1 C.2.1 dL_law_1243 rfl (lv_at hl 3 rfl) ?_
  refine lv_iload_n C.1 C.2.1 dL_law_1244 rfl (lv_at hl 0 rfl) ?_
  refine lv_iconst (v := 1) C.1 C.2.1 dL_law_1245 (by decide) ?_
  refine lv_iadd C.1 C.2.1 dL_law_1246 ?_
  refine va_sld C.1 C.2.1 hX hbl hbA hW.2 hi1 dL_law_1247 ?_
  refine z_ci hW (z_runV C hW [.int (xs (x3 + 1).toNatClampNeg)] [] s11_0.1 s11_0.2.1 kX11.1 kvX11_when q_838 (tX11_when l C.2.2.2.2.2.2.1 s11_0 e1) rfl rfl ⟨by decide, by decide⟩ rfl hl.1 rfl (Nat.le_of_ble_eq_true rfl) dL_law_1248 hcs) (fun H locs hW => ?_)
  refine lv_aload_n C.1 C.2.1 dL_law_1251 rfl (lv_at hl 1 rfl) ?_
  refine lv_aload_n C.1 C.2.1 dL_law_1252 rfl (lv_at hl 3 rfl) ?_
  refine lv_iload_n C.1 C.2.1 dL_law_1253 rfl (lv_at hl 0 rfl) ?_
  refine lv_iconst (v := 1) C.1 C.2.1 dL_law_1254 (by decide) ?_
  refine lv_iadd C.1 C.2.1 dL_law_1255 ?_
  refine va_sld C.1 C.2.1 hX hbl hbA hW.2 hi1 dL_law_1256 ?_
  refine z_ci hW (z_runV C hW [.int (xs (x3 + 1).toNatClampNeg)] [.int v] s12_175.1 s12_175.2.1 kX12.1 kvX12_when q_1475 (tX12_when l C.2.2.2.2.2.2.1 s12_175 e2) rfl rfl ⟨by decide, by decide⟩ rfl hl.1 rfl (Nat.le_of_ble_eq_true rfl) dL_law_1257 hcs) (fun H locs hW => ?_)
  exact lv_icmp_eq (tgt := 1573) C.1 C.2.1 dL_law_1260 (by decide) (fun _ => kk _ _ _ _ hR hW hl) (fun c => absurd rfl c)
set_option maxRecDepth 100000 in
set_option maxHeartbeats 4000000 in
theorem lc_31 (C : Cx p s m meth c #[Value.ref b] code 4 ret RL D ca ad) (hX : va_X b L xs s s.heap) (hbl : b < s.heap.size) (hbA : ¬ AA ad b) (hcs : 197 + 0 ≤ room_1.cells ∧ 6445 + 0 ≤ room_1.slots) (hi1 : vp_in (x3 + 1) L) (hi2 : vp_in (x3 + 2) L) (hOK : OK_31 N Rel) (hR : Rel mm) (hW : Wd D ca ad s.heap mm H locs) (hl : lv_has ls 4 [(3, .int x3), (2, .ref (ad 175)), (1, .ref (ad 0)), (0, .ref b)]) (kk : ∀ (mm : Mm) (H : Heap) (locs : List Loc) (ls : Array Slot), Rel mm → Wd D ca ad s.heap mm H locs → lv_has ls 4 [(3, .int x3), (2, .ref (ad 175)), (1, .ref (ad 0)), (0, .ref b)] → W p l e room_1 s m #[Value.ref b] below meth c H locs 197 6445 Q (F0 m 1573 ls [])) : W p l e room_1 s m #[Value.ref b] below meth c H locs 197 6445 Q (F0 m 1265 ls []) := by
  obtain ⟨v, m1, m2, e1, e2, hR⟩ := hOK (xs (x3 + 1).toNatClampNeg) (xs (x3 + 2).toNatClampNeg) mm hR
  refine lv_aload_n C.1 C.2.1 dL_law_1265 rfl (lv_at hl 2 rfl) ?_
  refine lv_aload_n C.1 C.2.1 dL_law_1266 rfl (lv_at hl 3 rfl) ?_
  refine lv_iload_n C.1 C.2.1 dL_law_1267 rfl (lv_at hl 0 rfl) ?_
  refine lv_iconst (v := 1) C.1 C.2.1 dL_law_1268 (by decide) ?_
  refine lv_iadd C.1 C.2.1 dL_law_1269 ?_
  refine va_sld C.1 C.2.1 hX hbl hbA hW.2 hi1 dL_law_1270 ?_
  refine lv_aload_n C.1 C.2.1 dL_law_1271 rfl (lv_at hl 3 rfl) ?_
  refine lv_iload_n C.1 C.2.1 dL_law_1272 rfl (lv_at hl 0 rfl) ?_
  refine lv_iconst (v := 2) C.1 C.2.1 dL_law_1273 (by decide) ?_
  refine lv_iadd C.1 C.2.1 dL_law_1274 ?_
  refine va_sld C.1 C.2.1 hX hbl hbA hW.2 hi2 dL_law_1275 ?_
  refine z_ci hW (z_runV C hW [.int (xs (x3 + 1).toNatClampNeg), .int (xs (x3 + 2).toNatClampNeg)] [] s11_0.1 s11_0.2.1 kX11.1 kvX11_rule q_842 (tX11_rule l C.2.2.2.2.2.2.1 s11_0 e1) rfl rfl ⟨by decide, by decide⟩ rfl hl.1 rfl (Nat.le_of_ble_eq_true rfl) dL_law_1276 hcs) (fun H locs hW => ?_)
  refine lv_aload_n C.1 C.2.1 dL_law_1279 rfl (lv_at hl 1 rfl) ?_
  refine lv_aload_n C.1 C.2.1 dL_law_1280 rfl (lv_at hl 3 rfl) ?_
  refine lv_iload_n C.1 C.2.1 dL_law_1281 rfl (lv_at hl 0 rfl) ?_
  refine lv_iconst (v := 1) C.1 C.2.1 dL_law_1282 (by decide) ?_
  refine lv_iadd C.1 C.2.1 dL_law_1283 ?_
  refine va_sld C.1 C.2.1 hX hbl hbA hW.2 hi1 dL_law_1284 ?_
  refine lv_aload_n C.1 C.2.1 dL_law_1285 rfl (lv_at hl 3 rfl) ?_
  refine lv_iload_n C.1 C.2.1 dL_law_1286 rfl (lv_at hl 0 rfl) ?_
  refine lv_iconst (v := 2) C.1 C.2.1 dL_law_1287 (by decide) ?_
  refine lv_iadd C.1 C.2.1 dL_law_1288 ?_
  refine va_sld C.1 C.2.1 hX hbl hbA hW.2 hi2 dL_law_1289 ?_
  refine z_ci hW (z_runV C hW [.int (xs (x3 + 1).toNatClampNeg), .int (xs (x3 + 2).toNatClampNeg)] [.int v] s12_175.1 s12_175.2.1 kX12.1 kvX12_rule q_1479 (tX12_rule l C.2.2.2.2.2.2.1 s12_175 e2) rfl rfl ⟨by decide, by decide⟩ rfl hl.1 rfl (Nat.le_of_ble_eq_true rfl) dL_law_1290 hcs) (fun H locs hW => ?_)
  exact lv_icmp_eq (tgt := 1573) C.1 C.2.1 dL_law_1293 (by decide) (fun _ => kk _ _ _ _ hR hW hl) (fun c => absurd rfl c)
set_option maxRecDepth 100000 in
set_option maxHeartbeats 4000000 in
theorem lc_32 (C : Cx p s m meth c #[Value.ref b] code 4 ret RL D ca ad) (hX : va_X b L xs s s.heap) (hbl : b < s.heap.size) (hbA : ¬ AA ad b) (hcs : 197 + 0 ≤ room_1.cells ∧ 6445 + 0 ≤ room_1.slots) (hi1 : vp_in (x3 + 1) L) (hi2 : vp_in (x3 + 2) L) (hOK : OK_32 N Rel) (hR : Rel mm) (hW : Wd D ca ad s.heap mm H locs) (hl : lv_has ls 4 [(3, .int x3), (2, .ref (ad 175)), (1, .ref (ad 0)), (0, .ref b)]) (kk : ∀ (mm : Mm) (H : Heap) (locs : List Loc) (ls : Array Slot), Rel mm → Wd D ca ad s.heap mm H locs → lv_has ls 4 [(3, .int x3), (2, .ref (ad 175)), (1, .ref (ad 0)), (0, .ref b)] → W p l e room_1 s m #[Value.ref b] below meth c H locs 197 6445 Q (F0 m 1573 ls [])) : W p l e room_1 s m #[Value.ref b] below meth c H locs 197 6445 Q (F0 m 1298 ls []) := by
  obtain ⟨v, m1, m2, e1, e2, hR⟩ := hOK (xs (x3 + 1).toNatClampNeg) (xs (x3 + 2).toNatClampNeg) mm hR
  refine lv_aload_n C.1 C.2.1 dL_law_1298 rfl (lv_at hl 2 rfl) ?_
  refine lv_aload_n C.1 C.2.1 dL_law_1299 rfl (lv_at hl 3 rfl) ?_
  refine lv_iload_n C.1 C.2.1 dL_law_1300 rfl (lv_at hl 0 rfl) ?_
  refine lv_iconst (v := 1) C.1 C.2.1 dL_law_1301 (by decide) ?_
  refine lv_iadd C.1 C.2.1 dL_law_1302 ?_
  refine va_sld C.1 C.2.1 hX hbl hbA hW.2 hi1 dL_law_1303 ?_
  refine lv_aload_n C.1 C.2.1 dL_law_1304 rfl (lv_at hl 3 rfl) ?_
  refine lv_iload_n C.1 C.2.1 dL_law_1305 rfl (lv_at hl 0 rfl) ?_
  refine lv_iconst (v := 2) C.1 C.2.1 dL_law_1306 (by decide) ?_
  refine lv_iadd C.1 C.2.1 dL_law_1307 ?_
  refine va_sld C.1 C.2.1 hX hbl hbA hW.2 hi2 dL_law_1308 ?_
  refine z_ci hW (z_runV C hW [.int (xs (x3 + 1).toNatClampNeg), .int (xs (x3 + 2).toNatClampNeg)] [] s11_0.1 s11_0.2.1 kX11.1 kvX11_note q_873 (tX11_note l C.2.2.2.2.2.2.1 s11_0 e1) rfl rfl ⟨by decide, by decide⟩ rfl hl.1 rfl (Nat.le_of_ble_eq_true rfl) dL_law_1309 hcs) (fun H locs hW => ?_)
  refine lv_aload_n C.1 C.2.1 dL_law_1312 rfl (lv_at hl 1 rfl) ?_
  refine lv_aload_n C.1 C.2.1 dL_law_1313 rfl (lv_at hl 3 rfl) ?_
  refine lv_iload_n C.1 C.2.1 dL_law_1314 rfl (lv_at hl 0 rfl) ?_
  refine lv_iconst (v := 1) C.1 C.2.1 dL_law_1315 (by decide) ?_
  refine lv_iadd C.1 C.2.1 dL_law_1316 ?_
  refine va_sld C.1 C.2.1 hX hbl hbA hW.2 hi1 dL_law_1317 ?_
  refine lv_aload_n C.1 C.2.1 dL_law_1318 rfl (lv_at hl 3 rfl) ?_
  refine lv_iload_n C.1 C.2.1 dL_law_1319 rfl (lv_at hl 0 rfl) ?_
  refine lv_iconst (v := 2) C.1 C.2.1 dL_law_1320 (by decide) ?_
  refine lv_iadd C.1 C.2.1 dL_law_1321 ?_
  refine va_sld C.1 C.2.1 hX hbl hbA hW.2 hi2 dL_law_1322 ?_
  refine z_ci hW (z_runV C hW [.int (xs (x3 + 1).toNatClampNeg), .int (xs (x3 + 2).toNatClampNeg)] [.int v] s12_175.1 s12_175.2.1 kX12.1 kvX12_note q_1487 (tX12_note l C.2.2.2.2.2.2.1 s12_175 e2) rfl rfl ⟨by decide, by decide⟩ rfl hl.1 rfl (Nat.le_of_ble_eq_true rfl) dL_law_1323 hcs) (fun H locs hW => ?_)
  exact lv_icmp_eq (tgt := 1573) C.1 C.2.1 dL_law_1326 (by decide) (fun _ => kk _ _ _ _ hR hW hl) (fun c => absurd rfl c)
set_option maxRecDepth 100000 in
set_option maxHeartbeats 4000000 in
theorem lc_33 (C : Cx p s m meth c #[Value.ref b] code 4 ret RL D ca ad) (hX : va_X b L xs s s.heap) (hbl : b < s.heap.size) (hbA : ¬ AA ad b) (hcs : 197 + 0 ≤ room_1.cells ∧ 6445 + 0 ≤ room_1.slots) (hi1 : vp_in (x3 + 1) L) (hOK : OK_33 N Rel) (hR : Rel mm) (hW : Wd D ca ad s.heap mm H locs) (hl : lv_has ls 4 [(3, .int x3), (2, .ref (ad 175)), (1, .ref (ad 0)), (0, .ref b)]) (kk : ∀ (mm : Mm) (H : Heap) (locs : List Loc) (ls : Array Slot), Rel mm → Wd D ca ad s.heap mm H locs → lv_has ls 4 [(3, .int x3), (2, .ref (ad 175)), (1, .ref (ad 0)), (0, .ref b)] → W p l e room_1 s m #[Value.ref b] below meth c H locs 197 6445 Q (F0 m 1573 ls [])) : W p l e room_1 s m #[Value.ref b] below meth c H locs 197 6445 Q (F0 m 1331 ls []) := by
  obtain ⟨v, m1, m2, e1, e2, hR⟩ := hOK (xs (x3 + 1).toNatClampNeg) mm hR
  refine lv_aload_n C.1 C.2.1 dL_law_1331 rfl (lv_at hl 2 rfl) ?_
  refine lv_aload_n C.1 C.2.1 dL_law_1332 rfl (lv_at hl 3 rfl) ?_
  refine lv_iload_n C.1 C.2.1 dL_law_1333 rfl (lv_at hl 0 rfl) ?_
  refine lv_iconst (v := 1) C.1 C.2.1 dL_law_1334 (by decide) ?_
  refine lv_iadd C.1 C.2.1 dL_law_1335 ?_
  refine va_sld C.1 C.2.1 hX hbl hbA hW.2 hi1 dL_law_1336 ?_
  refine z_ci hW (z_runV C hW [.int (xs (x3 + 1).toNatClampNeg)] [] s11_0.1 s11_0.2.1 kX11.1 kvX11_back q_882 (tX11_back l C.2.2.2.2.2.2.1 s11_0 e1) rfl rfl ⟨by decide, by decide⟩ rfl hl.1 rfl (Nat.le_of_ble_eq_true rfl) dL_law_1337 hcs) (fun H locs hW => ?_)
  refine lv_aload_n C.1 C.2.1 dL_law_1340 rfl (lv_at hl 1 rfl) ?_
  refine lv_aload_n C.1 C.2.1 dL_law_1341 rfl (lv_at hl 3 rfl) ?_
  refine lv_iload_n C.1 C.2.1 dL_law_1342 rfl (lv_at hl 0 rfl) ?_
  refine lv_iconst (v := 1) C.1 C.2.1 dL_law_1343 (by decide) ?_
  refine lv_iadd C.1 C.2.1 dL_law_1344 ?_
  refine va_sld C.1 C.2.1 hX hbl hbA hW.2 hi1 dL_law_1345 ?_
  refine z_ci hW (z_runV C hW [.int (xs (x3 + 1).toNatClampNeg)] [.int v] s12_175.1 s12_175.2.1 kX12.1 kvX12_back q_1491 (tX12_back l C.2.2.2.2.2.2.1 s12_175 e2) rfl rfl ⟨by decide, by decide⟩ rfl hl.1 rfl (Nat.le_of_ble_eq_true rfl) dL_law_1346 hcs) (fun H locs hW => ?_)
  exact lv_icmp_eq (tgt := 1573) C.1 C.2.1 dL_law_1349 (by decide) (fun _ => kk _ _ _ _ hR hW hl) (fun c => absurd rfl c)
set_option maxRecDepth 100000 in
set_option maxHeartbeats 4000000 in
theorem lc_34 (C : Cx p s m meth c #[Value.ref b] code 4 ret RL D ca ad) (hX : va_X b L xs s s.heap) (hbl : b < s.heap.size) (hbA : ¬ AA ad b) (hcs : 197 + 0 ≤ room_1.cells ∧ 6445 + 0 ≤ room_1.slots)  (hOK : OK_34 N Rel) (hR : Rel mm) (hW : Wd D ca ad s.heap mm H locs) (hl : lv_has ls 4 [(3, .int x3), (2, .ref (ad 175)), (1, .ref (ad 0)), (0, .ref b)]) (kk : ∀ (mm : Mm) (H : Heap) (locs : List Loc) (ls : Array Slot), Rel mm → Wd D ca ad s.heap mm H locs → lv_has ls 4 [(3, .int x3), (2, .ref (ad 175)), (1, .ref (ad 0)), (0, .ref b)] → W p l e room_1 s m #[Value.ref b] below meth c H locs 197 6445 Q (F0 m 1573 ls [])) : W p l e room_1 s m #[Value.ref b] below meth c H locs 197 6445 Q (F0 m 1354 ls []) := by
  obtain ⟨v, m1, m2, e1, e2, hR⟩ := hOK  mm hR
  refine lv_aload_n C.1 C.2.1 dL_law_1354 rfl (lv_at hl 2 rfl) ?_
  refine z_ci hW (z_runV C hW [] [] s11_0.1 s11_0.2.1 kX11.1 kvX11_rules q_886 (tX11_rules l C.2.2.2.2.2.2.1 s11_0 e1) rfl rfl ⟨by decide, by decide⟩ rfl hl.1 rfl (Nat.le_of_ble_eq_true rfl) dL_law_1355 hcs) (fun H locs hW => ?_)
  refine lv_aload_n C.1 C.2.1 dL_law_1358 rfl (lv_at hl 1 rfl) ?_
  refine z_ci hW (z_runV C hW [] [.int v] s12_175.1 s12_175.2.1 kX12.1 kvX12_rules q_1495 (tX12_rules l C.2.2.2.2.2.2.1 s12_175 e2) rfl rfl ⟨by decide, by decide⟩ rfl hl.1 rfl (Nat.le_of_ble_eq_true rfl) dL_law_1359 hcs) (fun H locs hW => ?_)
  exact lv_icmp_eq (tgt := 1573) C.1 C.2.1 dL_law_1362 (by decide) (fun _ => kk _ _ _ _ hR hW hl) (fun c => absurd rfl c)
set_option maxRecDepth 100000 in
set_option maxHeartbeats 4000000 in
theorem lc_35 (C : Cx p s m meth c #[Value.ref b] code 4 ret RL D ca ad) (hX : va_X b L xs s s.heap) (hbl : b < s.heap.size) (hbA : ¬ AA ad b) (hcs : 197 + 0 ≤ room_1.cells ∧ 6445 + 0 ≤ room_1.slots) (hi1 : vp_in (x3 + 1) L) (hOK : OK_35 N Rel) (hR : Rel mm) (hW : Wd D ca ad s.heap mm H locs) (hl : lv_has ls 4 [(3, .int x3), (2, .ref (ad 175)), (1, .ref (ad 0)), (0, .ref b)]) (kk : ∀ (mm : Mm) (H : Heap) (locs : List Loc) (ls : Array Slot), Rel mm → Wd D ca ad s.heap mm H locs → lv_has ls 4 [(3, .int x3), (2, .ref (ad 175)), (1, .ref (ad 0)), (0, .ref b)] → W p l e room_1 s m #[Value.ref b] below meth c H locs 197 6445 Q (F0 m 1573 ls [])) : W p l e room_1 s m #[Value.ref b] below meth c H locs 197 6445 Q (F0 m 1367 ls []) := by
  obtain ⟨v, m1, m2, e1, e2, hR⟩ := hOK (xs (x3 + 1).toNatClampNeg) mm hR
  refine lv_aload_n C.1 C.2.1 dL_law_1367 rfl (lv_at hl 2 rfl) ?_
  refine lv_aload_n C.1 C.2.1 dL_law_1368 rfl (lv_at hl 3 rfl) ?_
  refine lv_iload_n C.1 C.2.1 dL_law_1369 rfl (lv_at hl 0 rfl) ?_
  refine lv_iconst (v := 1) C.1 C.2.1 dL_law_1370 (by decide) ?_
  refine lv_iadd C.1 C.2.1 dL_law_1371 ?_
  refine va_sld C.1 C.2.1 hX hbl hbA hW.2 hi1 dL_law_1372 ?_
  refine z_ci hW (z_runV C hW [.int (xs (x3 + 1).toNatClampNeg)] [] s11_0.1 s11_0.2.1 kX11.1 kvX11_reply q_925 (tX11_reply l C.2.2.2.2.2.2.1 s11_0 e1) rfl rfl ⟨by decide, by decide⟩ rfl hl.1 rfl (Nat.le_of_ble_eq_true rfl) dL_law_1373 hcs) (fun H locs hW => ?_)
  refine lv_aload_n C.1 C.2.1 dL_law_1376 rfl (lv_at hl 1 rfl) ?_
  refine lv_aload_n C.1 C.2.1 dL_law_1377 rfl (lv_at hl 3 rfl) ?_
  refine lv_iload_n C.1 C.2.1 dL_law_1378 rfl (lv_at hl 0 rfl) ?_
  refine lv_iconst (v := 1) C.1 C.2.1 dL_law_1379 (by decide) ?_
  refine lv_iadd C.1 C.2.1 dL_law_1380 ?_
  refine va_sld C.1 C.2.1 hX hbl hbA hW.2 hi1 dL_law_1381 ?_
  refine z_ci hW (z_runV C hW [.int (xs (x3 + 1).toNatClampNeg)] [.int v] s12_175.1 s12_175.2.1 kX12.1 kvX12_reply q_1519 (tX12_reply l C.2.2.2.2.2.2.1 s12_175 e2) rfl rfl ⟨by decide, by decide⟩ rfl hl.1 rfl (Nat.le_of_ble_eq_true rfl) dL_law_1382 hcs) (fun H locs hW => ?_)
  exact lv_icmp_eq (tgt := 1573) C.1 C.2.1 dL_law_1385 (by decide) (fun _ => kk _ _ _ _ hR hW hl) (fun c => absurd rfl c)
set_option maxRecDepth 100000 in
set_option maxHeartbeats 4000000 in
theorem lc_36 (C : Cx p s m meth c #[Value.ref b] code 4 ret RL D ca ad) (hX : va_X b L xs s s.heap) (hbl : b < s.heap.size) (hbA : ¬ AA ad b) (hcs : 197 + 0 ≤ room_1.cells ∧ 6445 + 0 ≤ room_1.slots) (hi1 : vp_in (x3 + 1) L) (hOK : OK_36 N Rel) (hR : Rel mm) (hW : Wd D ca ad s.heap mm H locs) (hl : lv_has ls 4 [(3, .int x3), (2, .ref (ad 175)), (1, .ref (ad 0)), (0, .ref b)]) (kk : ∀ (mm : Mm) (H : Heap) (locs : List Loc) (ls : Array Slot), Rel mm → Wd D ca ad s.heap mm H locs → lv_has ls 4 [(3, .int x3), (2, .ref (ad 175)), (1, .ref (ad 0)), (0, .ref b)] → W p l e room_1 s m #[Value.ref b] below meth c H locs 197 6445 Q (F0 m 1573 ls [])) : W p l e room_1 s m #[Value.ref b] below meth c H locs 197 6445 Q (F0 m 1390 ls []) := by
  obtain ⟨v, m1, m2, e1, e2, hR⟩ := hOK (xs (x3 + 1).toNatClampNeg) mm hR
  refine lv_aload_n C.1 C.2.1 dL_law_1390 rfl (lv_at hl 2 rfl) ?_
  refine lv_aload_n C.1 C.2.1 dL_law_1391 rfl (lv_at hl 3 rfl) ?_
  refine lv_iload_n C.1 C.2.1 dL_law_1392 rfl (lv_at hl 0 rfl) ?_
  refine lv_iconst (v := 1) C.1 C.2.1 dL_law_1393 (by decide) ?_
  refine lv_iadd C.1 C.2.1 dL_law_1394 ?_
  refine va_sld C.1 C.2.1 hX hbl hbA hW.2 hi1 dL_law_1395 ?_
  refine z_ci hW (z_runV C hW [.int (xs (x3 + 1).toNatClampNeg)] [] s11_0.1 s11_0.2.1 kX11.1 kvX11_tell q_932 (tX11_tell l C.2.2.2.2.2.2.1 s11_0 e1) rfl rfl ⟨by decide, by decide⟩ rfl hl.1 rfl (Nat.le_of_ble_eq_true rfl) dL_law_1396 hcs) (fun H locs hW => ?_)
  refine lv_aload_n C.1 C.2.1 dL_law_1399 rfl (lv_at hl 1 rfl) ?_
  refine lv_aload_n C.1 C.2.1 dL_law_1400 rfl (lv_at hl 3 rfl) ?_
  refine lv_iload_n C.1 C.2.1 dL_law_1401 rfl (lv_at hl 0 rfl) ?_
  refine lv_iconst (v := 1) C.1 C.2.1 dL_law_1402 (by decide) ?_
  refine lv_iadd C.1 C.2.1 dL_law_1403 ?_
  refine va_sld C.1 C.2.1 hX hbl hbA hW.2 hi1 dL_law_1404 ?_
  refine z_ci hW (z_runV C hW [.int (xs (x3 + 1).toNatClampNeg)] [.int v] s12_175.1 s12_175.2.1 kX12.1 kvX12_tell q_1523 (tX12_tell l C.2.2.2.2.2.2.1 s12_175 e2) rfl rfl ⟨by decide, by decide⟩ rfl hl.1 rfl (Nat.le_of_ble_eq_true rfl) dL_law_1405 hcs) (fun H locs hW => ?_)
  exact lv_icmp_eq (tgt := 1573) C.1 C.2.1 dL_law_1408 (by decide) (fun _ => kk _ _ _ _ hR hW hl) (fun c => absurd rfl c)
set_option maxRecDepth 100000 in
set_option maxHeartbeats 4000000 in
theorem lc_37 (C : Cx p s m meth c #[Value.ref b] code 4 ret RL D ca ad) (hX : va_X b L xs s s.heap) (hbl : b < s.heap.size) (hbA : ¬ AA ad b) (hcs : 197 + 0 ≤ room_1.cells ∧ 6445 + 0 ≤ room_1.slots) (hi1 : vp_in (x3 + 1) L) (hOK : OK_37 N Rel) (hR : Rel mm) (hW : Wd D ca ad s.heap mm H locs) (hl : lv_has ls 4 [(3, .int x3), (2, .ref (ad 175)), (1, .ref (ad 0)), (0, .ref b)]) (kk : ∀ (mm : Mm) (H : Heap) (locs : List Loc) (ls : Array Slot), Rel mm → Wd D ca ad s.heap mm H locs → lv_has ls 4 [(3, .int x3), (2, .ref (ad 175)), (1, .ref (ad 0)), (0, .ref b)] → W p l e room_1 s m #[Value.ref b] below meth c H locs 197 6445 Q (F0 m 1573 ls [])) : W p l e room_1 s m #[Value.ref b] below meth c H locs 197 6445 Q (F0 m 1413 ls []) := by
  obtain ⟨v, m1, m2, e1, e2, hR⟩ := hOK (xs (x3 + 1).toNatClampNeg) mm hR
  refine lv_aload_n C.1 C.2.1 dL_law_1413 rfl (lv_at hl 2 rfl) ?_
  refine lv_aload_n C.1 C.2.1 dL_law_1414 rfl (lv_at hl 3 rfl) ?_
  refine lv_iload_n C.1 C.2.1 dL_law_1415 rfl (lv_at hl 0 rfl) ?_
  refine lv_iconst (v := 1) C.1 C.2.1 dL_law_1416 (by decide) ?_
  refine lv_iadd C.1 C.2.1 dL_law_1417 ?_
  refine va_sld C.1 C.2.1 hX hbl hbA hW.2 hi1 dL_law_1418 ?_
  refine z_ci hW (z_runV C hW [.int (xs (x3 + 1).toNatClampNeg)] [] s11_0.1 s11_0.2.1 kX11.1 kvX11_keep q_941 (tX11_keep l C.2.2.2.2.2.2.1 s11_0 e1) rfl rfl ⟨by decide, by decide⟩ rfl hl.1 rfl (Nat.le_of_ble_eq_true rfl) dL_law_1419 hcs) (fun H locs hW => ?_)
  refine lv_aload_n C.1 C.2.1 dL_law_1422 rfl (lv_at hl 1 rfl) ?_
  refine lv_aload_n C.1 C.2.1 dL_law_1423 rfl (lv_at hl 3 rfl) ?_
  refine lv_iload_n C.1 C.2.1 dL_law_1424 rfl (lv_at hl 0 rfl) ?_
  refine lv_iconst (v := 1) C.1 C.2.1 dL_law_1425 (by decide) ?_
  refine lv_iadd C.1 C.2.1 dL_law_1426 ?_
  refine va_sld C.1 C.2.1 hX hbl hbA hW.2 hi1 dL_law_1427 ?_
  refine z_ci hW (z_runV C hW [.int (xs (x3 + 1).toNatClampNeg)] [.int v] s12_175.1 s12_175.2.1 kX12.1 kvX12_keep q_1531 (tX12_keep l C.2.2.2.2.2.2.1 s12_175 e2) rfl rfl ⟨by decide, by decide⟩ rfl hl.1 rfl (Nat.le_of_ble_eq_true rfl) dL_law_1428 hcs) (fun H locs hW => ?_)
  exact lv_icmp_eq (tgt := 1573) C.1 C.2.1 dL_law_1431 (by decide) (fun _ => kk _ _ _ _ hR hW hl) (fun c => absurd rfl c)
set_option maxRecDepth 100000 in
set_option maxHeartbeats 4000000 in
theorem lc_38 (C : Cx p s m meth c #[Value.ref b] code 4 ret RL D ca ad) (hX : va_X b L xs s s.heap) (hbl : b < s.heap.size) (hbA : ¬ AA ad b) (hcs : 197 + 0 ≤ room_1.cells ∧ 6445 + 0 ≤ room_1.slots) (hi1 : vp_in (x3 + 1) L) (hOK : OK_38 N Rel) (hR : Rel mm) (hW : Wd D ca ad s.heap mm H locs) (hl : lv_has ls 4 [(3, .int x3), (2, .ref (ad 175)), (1, .ref (ad 0)), (0, .ref b)]) (kk : ∀ (mm : Mm) (H : Heap) (locs : List Loc) (ls : Array Slot), Rel mm → Wd D ca ad s.heap mm H locs → lv_has ls 4 [(3, .int x3), (2, .ref (ad 175)), (1, .ref (ad 0)), (0, .ref b)] → W p l e room_1 s m #[Value.ref b] below meth c H locs 197 6445 Q (F0 m 1573 ls [])) : W p l e room_1 s m #[Value.ref b] below meth c H locs 197 6445 Q (F0 m 1436 ls []) := by
  obtain ⟨v, m1, m2, e1, e2, hR⟩ := hOK (xs (x3 + 1).toNatClampNeg) mm hR
  refine lv_aload_n C.1 C.2.1 dL_law_1436 rfl (lv_at hl 2 rfl) ?_
  refine lv_aload_n C.1 C.2.1 dL_law_1437 rfl (lv_at hl 3 rfl) ?_
  refine lv_iload_n C.1 C.2.1 dL_law_1438 rfl (lv_at hl 0 rfl) ?_
  refine lv_iconst (v := 1) C.1 C.2.1 dL_law_1439 (by decide) ?_
  refine lv_iadd C.1 C.2.1 dL_law_1440 ?_
  refine va_sld C.1 C.2.1 hX hbl hbA hW.2 hi1 dL_law_1441 ?_
  refine z_ci hW (z_runV C hW [.int (xs (x3 + 1).toNatClampNeg)] [] s11_0.1 s11_0.2.1 kX11.1 kvX11_on q_953 (tX11_on l C.2.2.2.2.2.2.1 s11_0 e1) rfl rfl ⟨by decide, by decide⟩ rfl hl.1 rfl (Nat.le_of_ble_eq_true rfl) dL_law_1442 hcs) (fun H locs hW => ?_)
  refine lv_aload_n C.1 C.2.1 dL_law_1445 rfl (lv_at hl 1 rfl) ?_
  refine lv_aload_n C.1 C.2.1 dL_law_1446 rfl (lv_at hl 3 rfl) ?_
  refine lv_iload_n C.1 C.2.1 dL_law_1447 rfl (lv_at hl 0 rfl) ?_
  refine lv_iconst (v := 1) C.1 C.2.1 dL_law_1448 (by decide) ?_
  refine lv_iadd C.1 C.2.1 dL_law_1449 ?_
  refine va_sld C.1 C.2.1 hX hbl hbA hW.2 hi1 dL_law_1450 ?_
  refine z_ci hW (z_runV C hW [.int (xs (x3 + 1).toNatClampNeg)] [.int v] s12_175.1 s12_175.2.1 kX12.1 kvX12_on q_1535 (tX12_on l C.2.2.2.2.2.2.1 s12_175 e2) rfl rfl ⟨by decide, by decide⟩ rfl hl.1 rfl (Nat.le_of_ble_eq_true rfl) dL_law_1451 hcs) (fun H locs hW => ?_)
  exact lv_icmp_eq (tgt := 1573) C.1 C.2.1 dL_law_1454 (by decide) (fun _ => kk _ _ _ _ hR hW hl) (fun c => absurd rfl c)
set_option maxRecDepth 100000 in
set_option maxHeartbeats 4000000 in
theorem lc_39 (C : Cx p s m meth c #[Value.ref b] code 4 ret RL D ca ad) (hX : va_X b L xs s s.heap) (hbl : b < s.heap.size) (hbA : ¬ AA ad b) (hcs : 197 + 0 ≤ room_1.cells ∧ 6445 + 0 ≤ room_1.slots)  (hOK : OK_39 N Rel) (hR : Rel mm) (hW : Wd D ca ad s.heap mm H locs) (hl : lv_has ls 4 [(3, .int x3), (2, .ref (ad 175)), (1, .ref (ad 0)), (0, .ref b)]) (kk : ∀ (mm : Mm) (H : Heap) (locs : List Loc) (ls : Array Slot), Rel mm → Wd D ca ad s.heap mm H locs → lv_has ls 4 [(3, .int x3), (2, .ref (ad 175)), (1, .ref (ad 0)), (0, .ref b)] → W p l e room_1 s m #[Value.ref b] below meth c H locs 197 6445 Q (F0 m 1573 ls [])) : W p l e room_1 s m #[Value.ref b] below meth c H locs 197 6445 Q (F0 m 1459 ls []) := by
  obtain ⟨v, m1, m2, e1, e2, hR⟩ := hOK  mm hR
  refine lv_aload_n C.1 C.2.1 dL_law_1459 rfl (lv_at hl 2 rfl) ?_
  refine z_ci hW (z_runV C hW [] [] s11_0.1 s11_0.2.1 kX11.1 kvX11_asked q_957 (tX11_asked l C.2.2.2.2.2.2.1 s11_0 e1) rfl rfl ⟨by decide, by decide⟩ rfl hl.1 rfl (Nat.le_of_ble_eq_true rfl) dL_law_1460 hcs) (fun H locs hW => ?_)
  refine lv_aload_n C.1 C.2.1 dL_law_1463 rfl (lv_at hl 1 rfl) ?_
  refine z_ci hW (z_runV C hW [] [.int v] s12_175.1 s12_175.2.1 kX12.1 kvX12_asked q_1539 (tX12_asked l C.2.2.2.2.2.2.1 s12_175 e2) rfl rfl ⟨by decide, by decide⟩ rfl hl.1 rfl (Nat.le_of_ble_eq_true rfl) dL_law_1464 hcs) (fun H locs hW => ?_)
  exact lv_icmp_eq (tgt := 1573) C.1 C.2.1 dL_law_1467 (by decide) (fun _ => kk _ _ _ _ hR hW hl) (fun c => absurd rfl c)
set_option maxRecDepth 100000 in
set_option maxHeartbeats 4000000 in
theorem lc_40 (C : Cx p s m meth c #[Value.ref b] code 4 ret RL D ca ad) (hX : va_X b L xs s s.heap) (hbl : b < s.heap.size) (hbA : ¬ AA ad b) (hcs : 197 + 0 ≤ room_1.cells ∧ 6445 + 0 ≤ room_1.slots)  (hOK : OK_40 N Rel) (hR : Rel mm) (hW : Wd D ca ad s.heap mm H locs) (hl : lv_has ls 4 [(3, .int x3), (2, .ref (ad 175)), (1, .ref (ad 0)), (0, .ref b)]) (kk : ∀ (mm : Mm) (H : Heap) (locs : List Loc) (ls : Array Slot), Rel mm → Wd D ca ad s.heap mm H locs → lv_has ls 4 [(3, .int x3), (2, .ref (ad 175)), (1, .ref (ad 0)), (0, .ref b)] → W p l e room_1 s m #[Value.ref b] below meth c H locs 197 6445 Q (F0 m 1573 ls [])) : W p l e room_1 s m #[Value.ref b] below meth c H locs 197 6445 Q (F0 m 1472 ls []) := by
  obtain ⟨v, m1, m2, e1, e2, hR⟩ := hOK  mm hR
  refine lv_aload_n C.1 C.2.1 dL_law_1472 rfl (lv_at hl 2 rfl) ?_
  refine z_cl hW (z_runV C hW [] [] s11_0.1 s11_0.2.1 kX11.1 kvX11_upper q_961 (tX11_upper l C.2.2.2.2.2.2.1 s11_0 e1) rfl rfl ⟨by decide, by decide⟩ rfl hl.1 rfl (Nat.le_of_ble_eq_true rfl) dL_law_1473 hcs) (fun H locs hW => ?_)
  refine lv_aload_n C.1 C.2.1 dL_law_1476 rfl (lv_at hl 1 rfl) ?_
  refine z_cl hW (z_runV C hW [] [.long v] s12_175.1 s12_175.2.1 kX12.1 kvX12_upper q_1543 (tX12_upper l C.2.2.2.2.2.2.1 s12_175 e2) rfl rfl ⟨by decide, by decide⟩ rfl hl.1 rfl (Nat.le_of_ble_eq_true rfl) dL_law_1477 hcs) (fun H locs hW => ?_)
  refine W.lcmp C.1 C.2.1 dL_law_1480 ?_
  exact lv_if_eq (tgt := 1573) C.1 C.2.1 dL_law_1481 (by decide) (fun _ => kk _ _ _ _ hR hW hl) (fun c => absurd (lg_self v) c)
set_option maxRecDepth 100000 in
set_option maxHeartbeats 4000000 in
theorem lc_41 (C : Cx p s m meth c #[Value.ref b] code 4 ret RL D ca ad) (hX : va_X b L xs s s.heap) (hbl : b < s.heap.size) (hbA : ¬ AA ad b) (hcs : 197 + 0 ≤ room_1.cells ∧ 6445 + 0 ≤ room_1.slots)  (hOK : OK_41 N Rel) (hR : Rel mm) (hW : Wd D ca ad s.heap mm H locs) (hl : lv_has ls 4 [(3, .int x3), (2, .ref (ad 175)), (1, .ref (ad 0)), (0, .ref b)]) (kk : ∀ (mm : Mm) (H : Heap) (locs : List Loc) (ls : Array Slot), Rel mm → Wd D ca ad s.heap mm H locs → lv_has ls 4 [(3, .int x3), (2, .ref (ad 175)), (1, .ref (ad 0)), (0, .ref b)] → W p l e room_1 s m #[Value.ref b] below meth c H locs 197 6445 Q (F0 m 1573 ls [])) : W p l e room_1 s m #[Value.ref b] below meth c H locs 197 6445 Q (F0 m 1486 ls []) := by
  obtain ⟨v, m1, m2, e1, e2, hR⟩ := hOK  mm hR
  refine lv_aload_n C.1 C.2.1 dL_law_1486 rfl (lv_at hl 2 rfl) ?_
  refine z_cl hW (z_runV C hW [] [] s11_0.1 s11_0.2.1 kX11.1 kvX11_lower q_965 (tX11_lower l C.2.2.2.2.2.2.1 s11_0 e1) rfl rfl ⟨by decide, by decide⟩ rfl hl.1 rfl (Nat.le_of_ble_eq_true rfl) dL_law_1487 hcs) (fun H locs hW => ?_)
  refine lv_aload_n C.1 C.2.1 dL_law_1490 rfl (lv_at hl 1 rfl) ?_
  refine z_cl hW (z_runV C hW [] [.long v] s12_175.1 s12_175.2.1 kX12.1 kvX12_lower q_1547 (tX12_lower l C.2.2.2.2.2.2.1 s12_175 e2) rfl rfl ⟨by decide, by decide⟩ rfl hl.1 rfl (Nat.le_of_ble_eq_true rfl) dL_law_1491 hcs) (fun H locs hW => ?_)
  refine W.lcmp C.1 C.2.1 dL_law_1494 ?_
  exact lv_if_eq (tgt := 1573) C.1 C.2.1 dL_law_1495 (by decide) (fun _ => kk _ _ _ _ hR hW hl) (fun c => absurd (lg_self v) c)
set_option maxRecDepth 100000 in
set_option maxHeartbeats 4000000 in
theorem lc_42 (C : Cx p s m meth c #[Value.ref b] code 4 ret RL D ca ad) (hX : va_X b L xs s s.heap) (hbl : b < s.heap.size) (hbA : ¬ AA ad b) (hcs : 197 + 0 ≤ room_1.cells ∧ 6445 + 0 ≤ room_1.slots) (hi1 : vp_in (x3 + 1) L) (hOK : OK_42 N Rel) (hR : Rel mm) (hW : Wd D ca ad s.heap mm H locs) (hl : lv_has ls 4 [(3, .int x3), (2, .ref (ad 175)), (1, .ref (ad 0)), (0, .ref b)]) (kk : ∀ (mm : Mm) (H : Heap) (locs : List Loc) (ls : Array Slot), Rel mm → Wd D ca ad s.heap mm H locs → lv_has ls 4 [(3, .int x3), (2, .ref (ad 175)), (1, .ref (ad 0)), (0, .ref b)] → W p l e room_1 s m #[Value.ref b] below meth c H locs 197 6445 Q (F0 m 1573 ls [])) : W p l e room_1 s m #[Value.ref b] below meth c H locs 197 6445 Q (F0 m 1500 ls []) := by
  obtain ⟨v, m1, m2, e1, e2, hR⟩ := hOK (xs (x3 + 1).toNatClampNeg) mm hR
  refine lv_aload_n C.1 C.2.1 dL_law_1500 rfl (lv_at hl 2 rfl) ?_
  refine lv_aload_n C.1 C.2.1 dL_law_1501 rfl (lv_at hl 3 rfl) ?_
  refine lv_iload_n C.1 C.2.1 dL_law_1502 rfl (lv_at hl 0 rfl) ?_
  refine lv_iconst (v := 1) C.1 C.2.1 dL_law_1503 (by decide) ?_
  refine lv_iadd C.1 C.2.1 dL_law_1504 ?_
  refine va_sld C.1 C.2.1 hX hbl hbA hW.2 hi1 dL_law_1505 ?_
  refine z_ci hW (z_runV C hW [.int (xs (x3 + 1).toNatClampNeg)] [] s11_0.1 s11_0.2.1 kX11.1 kvX11_count q_969 (tX11_count l C.2.2.2.2.2.2.1 s11_0 e1) rfl rfl ⟨by decide, by decide⟩ rfl hl.1 rfl (Nat.le_of_ble_eq_true rfl) dL_law_1506 hcs) (fun H locs hW => ?_)
  refine lv_aload_n C.1 C.2.1 dL_law_1509 rfl (lv_at hl 1 rfl) ?_
  refine lv_aload_n C.1 C.2.1 dL_law_1510 rfl (lv_at hl 3 rfl) ?_
  refine lv_iload_n C.1 C.2.1 dL_law_1511 rfl (lv_at hl 0 rfl) ?_
  refine lv_iconst (v := 1) C.1 C.2.1 dL_law_1512 (by decide) ?_
  refine lv_iadd C.1 C.2.1 dL_law_1513 ?_
  refine va_sld C.1 C.2.1 hX hbl hbA hW.2 hi1 dL_law_1514 ?_
  refine z_ci hW (z_runV C hW [.int (xs (x3 + 1).toNatClampNeg)] [.int v] s12_175.1 s12_175.2.1 kX12.1 kvX12_count q_1551 (tX12_count l C.2.2.2.2.2.2.1 s12_175 e2) rfl rfl ⟨by decide, by decide⟩ rfl hl.1 rfl (Nat.le_of_ble_eq_true rfl) dL_law_1515 hcs) (fun H locs hW => ?_)
  exact lv_icmp_eq (tgt := 1573) C.1 C.2.1 dL_law_1518 (by decide) (fun _ => kk _ _ _ _ hR hW hl) (fun c => absurd rfl c)
set_option maxRecDepth 100000 in
set_option maxHeartbeats 4000000 in
theorem lc_43 (C : Cx p s m meth c #[Value.ref b] code 4 ret RL D ca ad) (hX : va_X b L xs s s.heap) (hbl : b < s.heap.size) (hbA : ¬ AA ad b) (hcs : 197 + 0 ≤ room_1.cells ∧ 6445 + 0 ≤ room_1.slots)  (hOK : OK_43 N Rel) (hR : Rel mm) (hW : Wd D ca ad s.heap mm H locs) (hl : lv_has ls 4 [(3, .int x3), (2, .ref (ad 175)), (1, .ref (ad 0)), (0, .ref b)]) (kk : ∀ (mm : Mm) (H : Heap) (locs : List Loc) (ls : Array Slot), Rel mm → Wd D ca ad s.heap mm H locs → lv_has ls 4 [(3, .int x3), (2, .ref (ad 175)), (1, .ref (ad 0)), (0, .ref b)] → W p l e room_1 s m #[Value.ref b] below meth c H locs 197 6445 Q (F0 m 1573 ls [])) : W p l e room_1 s m #[Value.ref b] below meth c H locs 197 6445 Q (F0 m 1523 ls []) := by
  obtain ⟨v, m1, m2, e1, e2, hR⟩ := hOK  mm hR
  refine lv_aload_n C.1 C.2.1 dL_law_1523 rfl (lv_at hl 2 rfl) ?_
  refine z_ci hW (z_runV C hW [] [] s11_0.1 s11_0.2.1 kX11.1 kvX11_finding q_980 (tX11_finding l C.2.2.2.2.2.2.1 s11_0 e1) rfl rfl ⟨by decide, by decide⟩ rfl hl.1 rfl (Nat.le_of_ble_eq_true rfl) dL_law_1524 hcs) (fun H locs hW => ?_)
  refine lv_aload_n C.1 C.2.1 dL_law_1527 rfl (lv_at hl 1 rfl) ?_
  refine z_ci hW (z_runV C hW [] [.int v] s12_175.1 s12_175.2.1 kX12.1 kvX12_finding q_1559 (tX12_finding l C.2.2.2.2.2.2.1 s12_175 e2) rfl rfl ⟨by decide, by decide⟩ rfl hl.1 rfl (Nat.le_of_ble_eq_true rfl) dL_law_1528 hcs) (fun H locs hW => ?_)
  exact lv_icmp_eq (tgt := 1573) C.1 C.2.1 dL_law_1531 (by decide) (fun _ => kk _ _ _ _ hR hW hl) (fun c => absurd rfl c)
set_option maxRecDepth 100000 in
set_option maxHeartbeats 4000000 in
theorem lc_44 (C : Cx p s m meth c #[Value.ref b] code 4 ret RL D ca ad) (hX : va_X b L xs s s.heap) (hbl : b < s.heap.size) (hbA : ¬ AA ad b) (hcs : 197 + 0 ≤ room_1.cells ∧ 6445 + 0 ≤ room_1.slots) (hi1 : vp_in (x3 + 1) L) (hOK : OK_44 N Rel) (hR : Rel mm) (hW : Wd D ca ad s.heap mm H locs) (hl : lv_has ls 4 [(3, .int x3), (2, .ref (ad 175)), (1, .ref (ad 0)), (0, .ref b)]) (kk : ∀ (mm : Mm) (H : Heap) (locs : List Loc) (ls : Array Slot), Rel mm → Wd D ca ad s.heap mm H locs → lv_has ls 4 [(3, .int x3), (2, .ref (ad 175)), (1, .ref (ad 0)), (0, .ref b)] → W p l e room_1 s m #[Value.ref b] below meth c H locs 197 6445 Q (F0 m 1573 ls [])) : W p l e room_1 s m #[Value.ref b] below meth c H locs 197 6445 Q (F0 m 1536 ls []) := by
  obtain ⟨v, m1, m2, e1, e2, hR⟩ := hOK (xs (x3 + 1).toNatClampNeg) mm hR
  refine lv_aload_n C.1 C.2.1 dL_law_1536 rfl (lv_at hl 2 rfl) ?_
  refine lv_aload_n C.1 C.2.1 dL_law_1537 rfl (lv_at hl 3 rfl) ?_
  refine lv_iload_n C.1 C.2.1 dL_law_1538 rfl (lv_at hl 0 rfl) ?_
  refine lv_iconst (v := 1) C.1 C.2.1 dL_law_1539 (by decide) ?_
  refine lv_iadd C.1 C.2.1 dL_law_1540 ?_
  refine va_sld C.1 C.2.1 hX hbl hbA hW.2 hi1 dL_law_1541 ?_
  refine z_ci hW (z_runV C hW [.int (xs (x3 + 1).toNatClampNeg)] [] s11_0.1 s11_0.2.1 kX11.1 kvX11_findings q_984 (tX11_findings l C.2.2.2.2.2.2.1 s11_0 e1) rfl rfl ⟨by decide, by decide⟩ rfl hl.1 rfl (Nat.le_of_ble_eq_true rfl) dL_law_1542 hcs) (fun H locs hW => ?_)
  refine lv_aload_n C.1 C.2.1 dL_law_1545 rfl (lv_at hl 1 rfl) ?_
  refine lv_aload_n C.1 C.2.1 dL_law_1546 rfl (lv_at hl 3 rfl) ?_
  refine lv_iload_n C.1 C.2.1 dL_law_1547 rfl (lv_at hl 0 rfl) ?_
  refine lv_iconst (v := 1) C.1 C.2.1 dL_law_1548 (by decide) ?_
  refine lv_iadd C.1 C.2.1 dL_law_1549 ?_
  refine va_sld C.1 C.2.1 hX hbl hbA hW.2 hi1 dL_law_1550 ?_
  refine z_ci hW (z_runV C hW [.int (xs (x3 + 1).toNatClampNeg)] [.int v] s12_175.1 s12_175.2.1 kX12.1 kvX12_findings q_1563 (tX12_findings l C.2.2.2.2.2.2.1 s12_175 e2) rfl rfl ⟨by decide, by decide⟩ rfl hl.1 rfl (Nat.le_of_ble_eq_true rfl) dL_law_1551 hcs) (fun H locs hW => ?_)
  exact lv_icmp_eq (tgt := 1573) C.1 C.2.1 dL_law_1554 (by decide) (fun _ => kk _ _ _ _ hR hW hl) (fun c => absurd rfl c)
set_option maxRecDepth 100000 in
set_option maxHeartbeats 4000000 in
theorem lc_45 (C : Cx p s m meth c #[Value.ref b] code 4 ret RL D ca ad) (hX : va_X b L xs s s.heap) (hbl : b < s.heap.size) (hbA : ¬ AA ad b) (hcs : 197 + 0 ≤ room_1.cells ∧ 6445 + 0 ≤ room_1.slots)  (hOK : OK_45 N Rel) (hR : Rel mm) (hW : Wd D ca ad s.heap mm H locs) (hl : lv_has ls 4 [(3, .int x3), (2, .ref (ad 175)), (1, .ref (ad 0)), (0, .ref b)]) (kk : ∀ (mm : Mm) (H : Heap) (locs : List Loc) (ls : Array Slot), Rel mm → Wd D ca ad s.heap mm H locs → lv_has ls 4 [(3, .int x3), (2, .ref (ad 175)), (1, .ref (ad 0)), (0, .ref b)] → W p l e room_1 s m #[Value.ref b] below meth c H locs 197 6445 Q (F0 m 1573 ls [])) : W p l e room_1 s m #[Value.ref b] below meth c H locs 197 6445 Q (F0 m 1559 ls []) := by
  obtain ⟨v, m1, m2, e1, e2, hR⟩ := hOK  mm hR
  refine lv_aload_n C.1 C.2.1 dL_law_1559 rfl (lv_at hl 2 rfl) ?_
  refine z_cl hW (z_runV C hW [] [] s11_0.1 s11_0.2.1 kX11.1 kvX11_digest q_988 (tX11_digest l C.2.2.2.2.2.2.1 s11_0 e1) rfl rfl ⟨by decide, by decide⟩ rfl hl.1 rfl (Nat.le_of_ble_eq_true rfl) dL_law_1560 hcs) (fun H locs hW => ?_)
  refine lv_aload_n C.1 C.2.1 dL_law_1563 rfl (lv_at hl 1 rfl) ?_
  refine z_cl hW (z_runV C hW [] [.long v] s12_175.1 s12_175.2.1 kX12.1 kvX12_digest q_1567 (tX12_digest l C.2.2.2.2.2.2.1 s12_175 e2) rfl rfl ⟨by decide, by decide⟩ rfl hl.1 rfl (Nat.le_of_ble_eq_true rfl) dL_law_1564 hcs) (fun H locs hW => ?_)
  refine W.lcmp C.1 C.2.1 dL_law_1567 ?_
  exact lv_if_eq (tgt := 1573) C.1 C.2.1 dL_law_1568 (by decide) (fun _ => kk _ _ _ _ hR hW hl) (fun c => absurd (lg_self v) c)
end LW
