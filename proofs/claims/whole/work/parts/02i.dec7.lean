set_option maxRecDepth 20000
theorem ax_d308_0 : decode code 0 = .ok (.new 7, 3) := by decide +kernel
theorem ax_d308_3 : decode code 3 = .ok (.dup, 1) := by decide +kernel
theorem ax_d308_4 : decode code 4 = .ok (.invokespecial 9, 3) := by decide +kernel
theorem ax_d308_7 : decode code 7 = .ok (.astore_n 1, 1) := by decide +kernel
theorem ax_d308_8 : decode code 8 = .ok (.new 10, 3) := by decide +kernel
theorem ax_d308_11 : decode code 11 = .ok (.dup, 1) := by decide +kernel
theorem ax_d308_12 : decode code 12 = .ok (.invokespecial 12, 3) := by decide +kernel
theorem ax_d308_15 : decode code 15 = .ok (.astore_n 2, 1) := by decide +kernel
theorem ax_d308_16 : decode code 16 = .ok (.iconst 0, 1) := by decide +kernel
theorem ax_d308_17 : decode code 17 = .ok (.istore_n 3, 1) := by decide +kernel
theorem ax_d308_18 : decode code 18 = .ok (.iload_n 3, 1) := by decide +kernel
theorem ax_d308_19 : decode code 19 = .ok (.aload_n 0, 1) := by decide +kernel
theorem ax_d308_20 : decode code 20 = .ok (.arraylength, 1) := by decide +kernel
theorem ax_d308_21 : decode code 21 = .ok (.bipush 6, 2) := by decide +kernel
theorem ax_d308_23 : decode code 23 = .ok (.isub, 1) := by decide +kernel
theorem ax_d308_24 : decode code 24 = .ok (.if_icmp .gt 1424, 3) := by decide +kernel
theorem ax_d308_27 : decode code 27 = .ok (.aload_n 0, 1) := by decide +kernel
theorem ax_d308_28 : decode code 28 = .ok (.iload_n 3, 1) := by decide +kernel
theorem ax_d308_29 : decode code 29 = .ok (.iaload, 1) := by decide +kernel
theorem ax_d308_30 : decode code 30 = .ok (.bipush 63, 2) := by decide +kernel
theorem ax_d308_32 : decode code 32 = .ok (.iand, 1) := by decide +kernel
theorem ax_d308_33 : decode code 33 = .ok (.tableswitch 1409 0 45 #[199, 222, 285, 308, 321, 344, 367, 400, 443, 496, 519, 542, 565, 588, 611, 644, 657, 700, 723, 756, 779, 802, 835, 868, 911, 934, 957, 980, 1003, 1046, 1069, 1082, 1095, 1118, 1151, 1174, 1198, 1222, 1235, 1268, 1291, 1324, 1337, 1360, 1373, 1386], 199) := by decide +kernel
theorem ax_d308_232 : decode code 232 = .ok (.aload_n 1, 1) := by decide +kernel
theorem ax_d308_233 : decode code 233 = .ok (.aload_n 0, 1) := by decide +kernel
theorem ax_d308_234 : decode code 234 = .ok (.iload_n 3, 1) := by decide +kernel
theorem ax_d308_235 : decode code 235 = .ok (.iconst 1, 1) := by decide +kernel
theorem ax_d308_236 : decode code 236 = .ok (.iadd, 1) := by decide +kernel
theorem ax_d308_237 : decode code 237 = .ok (.iaload, 1) := by decide +kernel
theorem ax_d308_238 : decode code 238 = .ok (.invokevirtual 13, 3) := by decide +kernel
theorem ax_d308_241 : decode code 241 = .ok (.aload_n 2, 1) := by decide +kernel
theorem ax_d308_242 : decode code 242 = .ok (.aload_n 0, 1) := by decide +kernel
theorem ax_d308_243 : decode code 243 = .ok (.iload_n 3, 1) := by decide +kernel
theorem ax_d308_244 : decode code 244 = .ok (.iconst 1, 1) := by decide +kernel
theorem ax_d308_245 : decode code 245 = .ok (.iadd, 1) := by decide +kernel
theorem ax_d308_246 : decode code 246 = .ok (.iaload, 1) := by decide +kernel
theorem ax_d308_247 : decode code 247 = .ok (.invokevirtual 17, 3) := by decide +kernel
theorem ax_d308_250 : decode code 250 = .ok (.if_icmp .eq 1192, 3) := by decide +kernel
theorem ax_d308_253 : decode code 253 = .ok (.iconst 0, 1) := by decide +kernel
theorem ax_d308_254 : decode code 254 = .ok (.ireturn, 1) := by decide +kernel
theorem ax_d308_255 : decode code 255 = .ok (.aload_n 1, 1) := by decide +kernel
theorem ax_d308_256 : decode code 256 = .ok (.aload_n 0, 1) := by decide +kernel
theorem ax_d308_257 : decode code 257 = .ok (.iload_n 3, 1) := by decide +kernel
theorem ax_d308_258 : decode code 258 = .ok (.iconst 1, 1) := by decide +kernel
theorem ax_d308_259 : decode code 259 = .ok (.iadd, 1) := by decide +kernel
theorem ax_d308_260 : decode code 260 = .ok (.iaload, 1) := by decide +kernel
theorem ax_d308_261 : decode code 261 = .ok (.aload_n 0, 1) := by decide +kernel
theorem ax_d308_262 : decode code 262 = .ok (.iload_n 3, 1) := by decide +kernel
theorem ax_d308_263 : decode code 263 = .ok (.iconst 2, 1) := by decide +kernel
theorem ax_d308_264 : decode code 264 = .ok (.iadd, 1) := by decide +kernel
theorem ax_d308_265 : decode code 265 = .ok (.iaload, 1) := by decide +kernel
theorem ax_d308_266 : decode code 266 = .ok (.aload_n 0, 1) := by decide +kernel
theorem ax_d308_267 : decode code 267 = .ok (.iload_n 3, 1) := by decide +kernel
theorem ax_d308_268 : decode code 268 = .ok (.iconst 3, 1) := by decide +kernel
theorem ax_d308_269 : decode code 269 = .ok (.iadd, 1) := by decide +kernel
theorem ax_d308_270 : decode code 270 = .ok (.iaload, 1) := by decide +kernel
theorem ax_d308_271 : decode code 271 = .ok (.aload_n 0, 1) := by decide +kernel
theorem ax_d308_272 : decode code 272 = .ok (.iload_n 3, 1) := by decide +kernel
theorem ax_d308_273 : decode code 273 = .ok (.iconst 4, 1) := by decide +kernel
theorem ax_d308_274 : decode code 274 = .ok (.iadd, 1) := by decide +kernel
theorem ax_d308_275 : decode code 275 = .ok (.iaload, 1) := by decide +kernel
theorem ax_d308_276 : decode code 276 = .ok (.aload_n 0, 1) := by decide +kernel
theorem ax_d308_277 : decode code 277 = .ok (.iload_n 3, 1) := by decide +kernel
theorem ax_d308_278 : decode code 278 = .ok (.iconst 5, 1) := by decide +kernel
theorem ax_d308_279 : decode code 279 = .ok (.iadd, 1) := by decide +kernel
theorem ax_d308_280 : decode code 280 = .ok (.iaload, 1) := by decide +kernel
theorem ax_d308_281 : decode code 281 = .ok (.invokevirtual 18, 3) := by decide +kernel
theorem ax_d308_284 : decode code 284 = .ok (.aload_n 2, 1) := by decide +kernel
theorem ax_d308_285 : decode code 285 = .ok (.aload_n 0, 1) := by decide +kernel
theorem ax_d308_286 : decode code 286 = .ok (.iload_n 3, 1) := by decide +kernel
theorem ax_d308_287 : decode code 287 = .ok (.iconst 1, 1) := by decide +kernel
theorem ax_d308_288 : decode code 288 = .ok (.iadd, 1) := by decide +kernel
theorem ax_d308_289 : decode code 289 = .ok (.iaload, 1) := by decide +kernel
theorem ax_d308_290 : decode code 290 = .ok (.aload_n 0, 1) := by decide +kernel
theorem ax_d308_291 : decode code 291 = .ok (.iload_n 3, 1) := by decide +kernel
theorem ax_d308_292 : decode code 292 = .ok (.iconst 2, 1) := by decide +kernel
theorem ax_d308_293 : decode code 293 = .ok (.iadd, 1) := by decide +kernel
theorem ax_d308_294 : decode code 294 = .ok (.iaload, 1) := by decide +kernel
theorem ax_d308_295 : decode code 295 = .ok (.aload_n 0, 1) := by decide +kernel
theorem ax_d308_296 : decode code 296 = .ok (.iload_n 3, 1) := by decide +kernel
theorem ax_d308_297 : decode code 297 = .ok (.iconst 3, 1) := by decide +kernel
theorem ax_d308_298 : decode code 298 = .ok (.iadd, 1) := by decide +kernel
theorem ax_d308_299 : decode code 299 = .ok (.iaload, 1) := by decide +kernel
theorem ax_d308_300 : decode code 300 = .ok (.aload_n 0, 1) := by decide +kernel
theorem ax_d308_301 : decode code 301 = .ok (.iload_n 3, 1) := by decide +kernel
theorem ax_d308_302 : decode code 302 = .ok (.iconst 4, 1) := by decide +kernel
theorem ax_d308_303 : decode code 303 = .ok (.iadd, 1) := by decide +kernel
theorem ax_d308_304 : decode code 304 = .ok (.iaload, 1) := by decide +kernel
theorem ax_d308_305 : decode code 305 = .ok (.aload_n 0, 1) := by decide +kernel
theorem ax_d308_306 : decode code 306 = .ok (.iload_n 3, 1) := by decide +kernel
theorem ax_d308_307 : decode code 307 = .ok (.iconst 5, 1) := by decide +kernel
theorem ax_d308_308 : decode code 308 = .ok (.iadd, 1) := by decide +kernel
theorem ax_d308_309 : decode code 309 = .ok (.iaload, 1) := by decide +kernel
theorem ax_d308_310 : decode code 310 = .ok (.invokevirtual 22, 3) := by decide +kernel
theorem ax_d308_313 : decode code 313 = .ok (.if_icmp .eq 1129, 3) := by decide +kernel
theorem ax_d308_316 : decode code 316 = .ok (.iconst 0, 1) := by decide +kernel
theorem ax_d308_317 : decode code 317 = .ok (.ireturn, 1) := by decide +kernel
theorem ax_d308_318 : decode code 318 = .ok (.aload_n 1, 1) := by decide +kernel
theorem ax_d308_319 : decode code 319 = .ok (.aload_n 0, 1) := by decide +kernel
theorem ax_d308_320 : decode code 320 = .ok (.iload_n 3, 1) := by decide +kernel
theorem ax_d308_321 : decode code 321 = .ok (.iconst 1, 1) := by decide +kernel
theorem ax_d308_322 : decode code 322 = .ok (.iadd, 1) := by decide +kernel
theorem ax_d308_323 : decode code 323 = .ok (.iaload, 1) := by decide +kernel
theorem ax_d308_324 : decode code 324 = .ok (.invokevirtual 23, 3) := by decide +kernel
theorem ax_d308_327 : decode code 327 = .ok (.aload_n 2, 1) := by decide +kernel
theorem ax_d308_328 : decode code 328 = .ok (.aload_n 0, 1) := by decide +kernel
theorem ax_d308_329 : decode code 329 = .ok (.iload_n 3, 1) := by decide +kernel
theorem ax_d308_330 : decode code 330 = .ok (.iconst 1, 1) := by decide +kernel
theorem ax_d308_331 : decode code 331 = .ok (.iadd, 1) := by decide +kernel
theorem ax_d308_332 : decode code 332 = .ok (.iaload, 1) := by decide +kernel
theorem ax_d308_333 : decode code 333 = .ok (.invokevirtual 26, 3) := by decide +kernel
theorem ax_d308_336 : decode code 336 = .ok (.if_icmp .eq 1106, 3) := by decide +kernel
theorem ax_d308_339 : decode code 339 = .ok (.iconst 0, 1) := by decide +kernel
theorem ax_d308_340 : decode code 340 = .ok (.ireturn, 1) := by decide +kernel
theorem ax_d308_341 : decode code 341 = .ok (.aload_n 1, 1) := by decide +kernel
theorem ax_d308_342 : decode code 342 = .ok (.invokevirtual 27, 3) := by decide +kernel
theorem ax_d308_345 : decode code 345 = .ok (.aload_n 2, 1) := by decide +kernel
theorem ax_d308_346 : decode code 346 = .ok (.invokevirtual 31, 3) := by decide +kernel
theorem ax_d308_349 : decode code 349 = .ok (.if_icmp .eq 1093, 3) := by decide +kernel
theorem ax_d308_352 : decode code 352 = .ok (.iconst 0, 1) := by decide +kernel
theorem ax_d308_353 : decode code 353 = .ok (.ireturn, 1) := by decide +kernel
theorem ax_d308_354 : decode code 354 = .ok (.aload_n 1, 1) := by decide +kernel
theorem ax_d308_355 : decode code 355 = .ok (.aload_n 0, 1) := by decide +kernel
theorem ax_d308_356 : decode code 356 = .ok (.iload_n 3, 1) := by decide +kernel
theorem ax_d308_357 : decode code 357 = .ok (.iconst 1, 1) := by decide +kernel
theorem ax_d308_358 : decode code 358 = .ok (.iadd, 1) := by decide +kernel
theorem ax_d308_359 : decode code 359 = .ok (.iaload, 1) := by decide +kernel
theorem ax_d308_360 : decode code 360 = .ok (.invokevirtual 32, 3) := by decide +kernel
theorem ax_d308_363 : decode code 363 = .ok (.aload_n 2, 1) := by decide +kernel
theorem ax_d308_364 : decode code 364 = .ok (.aload_n 0, 1) := by decide +kernel
theorem ax_d308_365 : decode code 365 = .ok (.iload_n 3, 1) := by decide +kernel
theorem ax_d308_366 : decode code 366 = .ok (.iconst 1, 1) := by decide +kernel
theorem ax_d308_367 : decode code 367 = .ok (.iadd, 1) := by decide +kernel
theorem ax_d308_368 : decode code 368 = .ok (.iaload, 1) := by decide +kernel
theorem ax_d308_369 : decode code 369 = .ok (.invokevirtual 35, 3) := by decide +kernel
theorem ax_d308_372 : decode code 372 = .ok (.if_icmp .eq 1070, 3) := by decide +kernel
theorem ax_d308_375 : decode code 375 = .ok (.iconst 0, 1) := by decide +kernel
theorem ax_d308_376 : decode code 376 = .ok (.ireturn, 1) := by decide +kernel
theorem ax_d308_377 : decode code 377 = .ok (.aload_n 1, 1) := by decide +kernel
theorem ax_d308_378 : decode code 378 = .ok (.aload_n 0, 1) := by decide +kernel
theorem ax_d308_379 : decode code 379 = .ok (.iload_n 3, 1) := by decide +kernel
theorem ax_d308_380 : decode code 380 = .ok (.iconst 1, 1) := by decide +kernel
theorem ax_d308_381 : decode code 381 = .ok (.iadd, 1) := by decide +kernel
theorem ax_d308_382 : decode code 382 = .ok (.iaload, 1) := by decide +kernel
theorem ax_d308_383 : decode code 383 = .ok (.invokevirtual 36, 3) := by decide +kernel
theorem ax_d308_386 : decode code 386 = .ok (.aload_n 2, 1) := by decide +kernel
theorem ax_d308_387 : decode code 387 = .ok (.aload_n 0, 1) := by decide +kernel
theorem ax_d308_388 : decode code 388 = .ok (.iload_n 3, 1) := by decide +kernel
theorem ax_d308_389 : decode code 389 = .ok (.iconst 1, 1) := by decide +kernel
theorem ax_d308_390 : decode code 390 = .ok (.iadd, 1) := by decide +kernel
theorem ax_d308_391 : decode code 391 = .ok (.iaload, 1) := by decide +kernel
theorem ax_d308_392 : decode code 392 = .ok (.invokevirtual 40, 3) := by decide +kernel
theorem ax_d308_395 : decode code 395 = .ok (.if_icmp .eq 1047, 3) := by decide +kernel
theorem ax_d308_398 : decode code 398 = .ok (.iconst 0, 1) := by decide +kernel
theorem ax_d308_399 : decode code 399 = .ok (.ireturn, 1) := by decide +kernel
theorem ax_d308_400 : decode code 400 = .ok (.aload_n 1, 1) := by decide +kernel
theorem ax_d308_401 : decode code 401 = .ok (.aload_n 0, 1) := by decide +kernel
theorem ax_d308_402 : decode code 402 = .ok (.iload_n 3, 1) := by decide +kernel
theorem ax_d308_403 : decode code 403 = .ok (.iconst 1, 1) := by decide +kernel
theorem ax_d308_404 : decode code 404 = .ok (.iadd, 1) := by decide +kernel
theorem ax_d308_405 : decode code 405 = .ok (.iaload, 1) := by decide +kernel
theorem ax_d308_406 : decode code 406 = .ok (.aload_n 0, 1) := by decide +kernel
theorem ax_d308_407 : decode code 407 = .ok (.iload_n 3, 1) := by decide +kernel
theorem ax_d308_408 : decode code 408 = .ok (.iconst 2, 1) := by decide +kernel
theorem ax_d308_409 : decode code 409 = .ok (.iadd, 1) := by decide +kernel
theorem ax_d308_410 : decode code 410 = .ok (.iaload, 1) := by decide +kernel
theorem ax_d308_411 : decode code 411 = .ok (.invokevirtual 41, 3) := by decide +kernel
theorem ax_d308_414 : decode code 414 = .ok (.aload_n 2, 1) := by decide +kernel
theorem ax_d308_415 : decode code 415 = .ok (.aload_n 0, 1) := by decide +kernel
theorem ax_d308_416 : decode code 416 = .ok (.iload_n 3, 1) := by decide +kernel
theorem ax_d308_417 : decode code 417 = .ok (.iconst 1, 1) := by decide +kernel
theorem ax_d308_418 : decode code 418 = .ok (.iadd, 1) := by decide +kernel
theorem ax_d308_419 : decode code 419 = .ok (.iaload, 1) := by decide +kernel
theorem ax_d308_420 : decode code 420 = .ok (.aload_n 0, 1) := by decide +kernel
theorem ax_d308_421 : decode code 421 = .ok (.iload_n 3, 1) := by decide +kernel
theorem ax_d308_422 : decode code 422 = .ok (.iconst 2, 1) := by decide +kernel
theorem ax_d308_423 : decode code 423 = .ok (.iadd, 1) := by decide +kernel
theorem ax_d308_424 : decode code 424 = .ok (.iaload, 1) := by decide +kernel
theorem ax_d308_425 : decode code 425 = .ok (.invokevirtual 45, 3) := by decide +kernel
theorem ax_d308_428 : decode code 428 = .ok (.if_icmp .eq 1014, 3) := by decide +kernel
theorem ax_d308_431 : decode code 431 = .ok (.iconst 0, 1) := by decide +kernel
theorem ax_d308_432 : decode code 432 = .ok (.ireturn, 1) := by decide +kernel
theorem ax_d308_433 : decode code 433 = .ok (.aload_n 1, 1) := by decide +kernel
theorem ax_d308_434 : decode code 434 = .ok (.aload_n 0, 1) := by decide +kernel
theorem ax_d308_435 : decode code 435 = .ok (.iload_n 3, 1) := by decide +kernel
theorem ax_d308_436 : decode code 436 = .ok (.iconst 1, 1) := by decide +kernel
theorem ax_d308_437 : decode code 437 = .ok (.iadd, 1) := by decide +kernel
theorem ax_d308_438 : decode code 438 = .ok (.iaload, 1) := by decide +kernel
theorem ax_d308_439 : decode code 439 = .ok (.aload_n 0, 1) := by decide +kernel
theorem ax_d308_440 : decode code 440 = .ok (.iload_n 3, 1) := by decide +kernel
theorem ax_d308_441 : decode code 441 = .ok (.iconst 2, 1) := by decide +kernel
theorem ax_d308_442 : decode code 442 = .ok (.iadd, 1) := by decide +kernel
theorem ax_d308_443 : decode code 443 = .ok (.iaload, 1) := by decide +kernel
theorem ax_d308_444 : decode code 444 = .ok (.aload_n 0, 1) := by decide +kernel
theorem ax_d308_445 : decode code 445 = .ok (.iload_n 3, 1) := by decide +kernel
theorem ax_d308_446 : decode code 446 = .ok (.iconst 3, 1) := by decide +kernel
theorem ax_d308_447 : decode code 447 = .ok (.iadd, 1) := by decide +kernel
theorem ax_d308_448 : decode code 448 = .ok (.iaload, 1) := by decide +kernel
theorem ax_d308_449 : decode code 449 = .ok (.invokevirtual 46, 3) := by decide +kernel
theorem ax_d308_452 : decode code 452 = .ok (.aload_n 2, 1) := by decide +kernel
theorem ax_d308_453 : decode code 453 = .ok (.aload_n 0, 1) := by decide +kernel
theorem ax_d308_454 : decode code 454 = .ok (.iload_n 3, 1) := by decide +kernel
theorem ax_d308_455 : decode code 455 = .ok (.iconst 1, 1) := by decide +kernel
theorem ax_d308_456 : decode code 456 = .ok (.iadd, 1) := by decide +kernel
theorem ax_d308_457 : decode code 457 = .ok (.iaload, 1) := by decide +kernel
theorem ax_d308_458 : decode code 458 = .ok (.aload_n 0, 1) := by decide +kernel
theorem ax_d308_459 : decode code 459 = .ok (.iload_n 3, 1) := by decide +kernel
theorem ax_d308_460 : decode code 460 = .ok (.iconst 2, 1) := by decide +kernel
theorem ax_d308_461 : decode code 461 = .ok (.iadd, 1) := by decide +kernel
theorem ax_d308_462 : decode code 462 = .ok (.iaload, 1) := by decide +kernel
theorem ax_d308_463 : decode code 463 = .ok (.aload_n 0, 1) := by decide +kernel
theorem ax_d308_464 : decode code 464 = .ok (.iload_n 3, 1) := by decide +kernel
theorem ax_d308_465 : decode code 465 = .ok (.iconst 3, 1) := by decide +kernel
theorem ax_d308_466 : decode code 466 = .ok (.iadd, 1) := by decide +kernel
theorem ax_d308_467 : decode code 467 = .ok (.iaload, 1) := by decide +kernel
theorem ax_d308_468 : decode code 468 = .ok (.invokevirtual 50, 3) := by decide +kernel
theorem ax_d308_471 : decode code 471 = .ok (.if_icmp .eq 971, 3) := by decide +kernel
theorem ax_d308_474 : decode code 474 = .ok (.iconst 0, 1) := by decide +kernel
theorem ax_d308_475 : decode code 475 = .ok (.ireturn, 1) := by decide +kernel
theorem ax_d308_476 : decode code 476 = .ok (.aload_n 1, 1) := by decide +kernel
theorem ax_d308_477 : decode code 477 = .ok (.aload_n 0, 1) := by decide +kernel
theorem ax_d308_478 : decode code 478 = .ok (.iload_n 3, 1) := by decide +kernel
theorem ax_d308_479 : decode code 479 = .ok (.iconst 1, 1) := by decide +kernel
theorem ax_d308_480 : decode code 480 = .ok (.iadd, 1) := by decide +kernel
theorem ax_d308_481 : decode code 481 = .ok (.iaload, 1) := by decide +kernel
theorem ax_d308_482 : decode code 482 = .ok (.aload_n 0, 1) := by decide +kernel
theorem ax_d308_483 : decode code 483 = .ok (.iload_n 3, 1) := by decide +kernel
theorem ax_d308_484 : decode code 484 = .ok (.iconst 2, 1) := by decide +kernel
theorem ax_d308_485 : decode code 485 = .ok (.iadd, 1) := by decide +kernel
theorem ax_d308_486 : decode code 486 = .ok (.iaload, 1) := by decide +kernel
theorem ax_d308_487 : decode code 487 = .ok (.aload_n 0, 1) := by decide +kernel
theorem ax_d308_488 : decode code 488 = .ok (.iload_n 3, 1) := by decide +kernel
theorem ax_d308_489 : decode code 489 = .ok (.iconst 3, 1) := by decide +kernel
theorem ax_d308_490 : decode code 490 = .ok (.iadd, 1) := by decide +kernel
theorem ax_d308_491 : decode code 491 = .ok (.iaload, 1) := by decide +kernel
theorem ax_d308_492 : decode code 492 = .ok (.aload_n 0, 1) := by decide +kernel
theorem ax_d308_493 : decode code 493 = .ok (.iload_n 3, 1) := by decide +kernel
theorem ax_d308_494 : decode code 494 = .ok (.iconst 4, 1) := by decide +kernel
theorem ax_d308_495 : decode code 495 = .ok (.iadd, 1) := by decide +kernel
theorem ax_d308_496 : decode code 496 = .ok (.iaload, 1) := by decide +kernel
theorem ax_d308_497 : decode code 497 = .ok (.invokevirtual 51, 3) := by decide +kernel
theorem ax_d308_500 : decode code 500 = .ok (.aload_n 2, 1) := by decide +kernel
theorem ax_d308_501 : decode code 501 = .ok (.aload_n 0, 1) := by decide +kernel
theorem ax_d308_502 : decode code 502 = .ok (.iload_n 3, 1) := by decide +kernel
theorem ax_d308_503 : decode code 503 = .ok (.iconst 1, 1) := by decide +kernel
theorem ax_d308_504 : decode code 504 = .ok (.iadd, 1) := by decide +kernel
theorem ax_d308_505 : decode code 505 = .ok (.iaload, 1) := by decide +kernel
theorem ax_d308_506 : decode code 506 = .ok (.aload_n 0, 1) := by decide +kernel
theorem ax_d308_507 : decode code 507 = .ok (.iload_n 3, 1) := by decide +kernel
theorem ax_d308_508 : decode code 508 = .ok (.iconst 2, 1) := by decide +kernel
theorem ax_d308_509 : decode code 509 = .ok (.iadd, 1) := by decide +kernel
theorem ax_d308_510 : decode code 510 = .ok (.iaload, 1) := by decide +kernel
theorem ax_d308_511 : decode code 511 = .ok (.aload_n 0, 1) := by decide +kernel
theorem ax_d308_512 : decode code 512 = .ok (.iload_n 3, 1) := by decide +kernel
theorem ax_d308_513 : decode code 513 = .ok (.iconst 3, 1) := by decide +kernel
theorem ax_d308_514 : decode code 514 = .ok (.iadd, 1) := by decide +kernel
theorem ax_d308_515 : decode code 515 = .ok (.iaload, 1) := by decide +kernel
theorem ax_d308_516 : decode code 516 = .ok (.aload_n 0, 1) := by decide +kernel
theorem ax_d308_517 : decode code 517 = .ok (.iload_n 3, 1) := by decide +kernel
theorem ax_d308_518 : decode code 518 = .ok (.iconst 4, 1) := by decide +kernel
theorem ax_d308_519 : decode code 519 = .ok (.iadd, 1) := by decide +kernel
theorem ax_d308_520 : decode code 520 = .ok (.iaload, 1) := by decide +kernel
theorem ax_d308_521 : decode code 521 = .ok (.invokevirtual 55, 3) := by decide +kernel
theorem ax_d308_524 : decode code 524 = .ok (.if_icmp .eq 918, 3) := by decide +kernel
theorem ax_d308_527 : decode code 527 = .ok (.iconst 0, 1) := by decide +kernel
theorem ax_d308_528 : decode code 528 = .ok (.ireturn, 1) := by decide +kernel
theorem ax_d308_529 : decode code 529 = .ok (.aload_n 1, 1) := by decide +kernel
theorem ax_d308_530 : decode code 530 = .ok (.aload_n 0, 1) := by decide +kernel
theorem ax_d308_531 : decode code 531 = .ok (.iload_n 3, 1) := by decide +kernel
theorem ax_d308_532 : decode code 532 = .ok (.iconst 1, 1) := by decide +kernel
theorem ax_d308_533 : decode code 533 = .ok (.iadd, 1) := by decide +kernel
theorem ax_d308_534 : decode code 534 = .ok (.iaload, 1) := by decide +kernel
theorem ax_d308_535 : decode code 535 = .ok (.invokevirtual 56, 3) := by decide +kernel
theorem ax_d308_538 : decode code 538 = .ok (.aload_n 2, 1) := by decide +kernel
theorem ax_d308_539 : decode code 539 = .ok (.aload_n 0, 1) := by decide +kernel
theorem ax_d308_540 : decode code 540 = .ok (.iload_n 3, 1) := by decide +kernel
theorem ax_d308_541 : decode code 541 = .ok (.iconst 1, 1) := by decide +kernel
theorem ax_d308_542 : decode code 542 = .ok (.iadd, 1) := by decide +kernel
theorem ax_d308_543 : decode code 543 = .ok (.iaload, 1) := by decide +kernel
theorem ax_d308_544 : decode code 544 = .ok (.invokevirtual 59, 3) := by decide +kernel
theorem ax_d308_547 : decode code 547 = .ok (.if_icmp .eq 895, 3) := by decide +kernel
theorem ax_d308_550 : decode code 550 = .ok (.iconst 0, 1) := by decide +kernel
theorem ax_d308_551 : decode code 551 = .ok (.ireturn, 1) := by decide +kernel
theorem ax_d308_552 : decode code 552 = .ok (.aload_n 1, 1) := by decide +kernel
theorem ax_d308_553 : decode code 553 = .ok (.aload_n 0, 1) := by decide +kernel
theorem ax_d308_554 : decode code 554 = .ok (.iload_n 3, 1) := by decide +kernel
theorem ax_d308_555 : decode code 555 = .ok (.iconst 1, 1) := by decide +kernel
theorem ax_d308_556 : decode code 556 = .ok (.iadd, 1) := by decide +kernel
theorem ax_d308_557 : decode code 557 = .ok (.iaload, 1) := by decide +kernel
theorem ax_d308_558 : decode code 558 = .ok (.invokevirtual 60, 3) := by decide +kernel
theorem ax_d308_561 : decode code 561 = .ok (.aload_n 2, 1) := by decide +kernel
theorem ax_d308_562 : decode code 562 = .ok (.aload_n 0, 1) := by decide +kernel
theorem ax_d308_563 : decode code 563 = .ok (.iload_n 3, 1) := by decide +kernel
theorem ax_d308_564 : decode code 564 = .ok (.iconst 1, 1) := by decide +kernel
theorem ax_d308_565 : decode code 565 = .ok (.iadd, 1) := by decide +kernel
theorem ax_d308_566 : decode code 566 = .ok (.iaload, 1) := by decide +kernel
theorem ax_d308_567 : decode code 567 = .ok (.invokevirtual 63, 3) := by decide +kernel
theorem ax_d308_570 : decode code 570 = .ok (.if_icmp .eq 872, 3) := by decide +kernel
theorem ax_d308_573 : decode code 573 = .ok (.iconst 0, 1) := by decide +kernel
theorem ax_d308_574 : decode code 574 = .ok (.ireturn, 1) := by decide +kernel
theorem ax_d308_575 : decode code 575 = .ok (.aload_n 1, 1) := by decide +kernel
theorem ax_d308_576 : decode code 576 = .ok (.aload_n 0, 1) := by decide +kernel
theorem ax_d308_577 : decode code 577 = .ok (.iload_n 3, 1) := by decide +kernel
theorem ax_d308_578 : decode code 578 = .ok (.iconst 1, 1) := by decide +kernel
theorem ax_d308_579 : decode code 579 = .ok (.iadd, 1) := by decide +kernel
theorem ax_d308_580 : decode code 580 = .ok (.iaload, 1) := by decide +kernel
theorem ax_d308_581 : decode code 581 = .ok (.invokevirtual 64, 3) := by decide +kernel
theorem ax_d308_584 : decode code 584 = .ok (.aload_n 2, 1) := by decide +kernel
theorem ax_d308_585 : decode code 585 = .ok (.aload_n 0, 1) := by decide +kernel
theorem ax_d308_586 : decode code 586 = .ok (.iload_n 3, 1) := by decide +kernel
theorem ax_d308_587 : decode code 587 = .ok (.iconst 1, 1) := by decide +kernel
theorem ax_d308_588 : decode code 588 = .ok (.iadd, 1) := by decide +kernel
theorem ax_d308_589 : decode code 589 = .ok (.iaload, 1) := by decide +kernel
theorem ax_d308_590 : decode code 590 = .ok (.invokevirtual 67, 3) := by decide +kernel
theorem ax_d308_593 : decode code 593 = .ok (.if_icmp .eq 849, 3) := by decide +kernel
theorem ax_d308_596 : decode code 596 = .ok (.iconst 0, 1) := by decide +kernel
theorem ax_d308_597 : decode code 597 = .ok (.ireturn, 1) := by decide +kernel
theorem ax_d308_598 : decode code 598 = .ok (.aload_n 1, 1) := by decide +kernel
theorem ax_d308_599 : decode code 599 = .ok (.aload_n 0, 1) := by decide +kernel
theorem ax_d308_600 : decode code 600 = .ok (.iload_n 3, 1) := by decide +kernel
theorem ax_d308_601 : decode code 601 = .ok (.iconst 1, 1) := by decide +kernel
theorem ax_d308_602 : decode code 602 = .ok (.iadd, 1) := by decide +kernel
theorem ax_d308_603 : decode code 603 = .ok (.iaload, 1) := by decide +kernel
theorem ax_d308_604 : decode code 604 = .ok (.invokevirtual 68, 3) := by decide +kernel
theorem ax_d308_607 : decode code 607 = .ok (.aload_n 2, 1) := by decide +kernel
theorem ax_d308_608 : decode code 608 = .ok (.aload_n 0, 1) := by decide +kernel
theorem ax_d308_609 : decode code 609 = .ok (.iload_n 3, 1) := by decide +kernel
theorem ax_d308_610 : decode code 610 = .ok (.iconst 1, 1) := by decide +kernel
theorem ax_d308_611 : decode code 611 = .ok (.iadd, 1) := by decide +kernel
theorem ax_d308_612 : decode code 612 = .ok (.iaload, 1) := by decide +kernel
theorem ax_d308_613 : decode code 613 = .ok (.invokevirtual 71, 3) := by decide +kernel
theorem ax_d308_616 : decode code 616 = .ok (.if_icmp .eq 826, 3) := by decide +kernel
theorem ax_d308_619 : decode code 619 = .ok (.iconst 0, 1) := by decide +kernel
theorem ax_d308_620 : decode code 620 = .ok (.ireturn, 1) := by decide +kernel
theorem ax_d308_621 : decode code 621 = .ok (.aload_n 1, 1) := by decide +kernel
theorem ax_d308_622 : decode code 622 = .ok (.aload_n 0, 1) := by decide +kernel
theorem ax_d308_623 : decode code 623 = .ok (.iload_n 3, 1) := by decide +kernel
theorem ax_d308_624 : decode code 624 = .ok (.iconst 1, 1) := by decide +kernel
theorem ax_d308_625 : decode code 625 = .ok (.iadd, 1) := by decide +kernel
theorem ax_d308_626 : decode code 626 = .ok (.iaload, 1) := by decide +kernel
theorem ax_d308_627 : decode code 627 = .ok (.invokevirtual 72, 3) := by decide +kernel
theorem ax_d308_630 : decode code 630 = .ok (.aload_n 2, 1) := by decide +kernel
theorem ax_d308_631 : decode code 631 = .ok (.aload_n 0, 1) := by decide +kernel
theorem ax_d308_632 : decode code 632 = .ok (.iload_n 3, 1) := by decide +kernel
theorem ax_d308_633 : decode code 633 = .ok (.iconst 1, 1) := by decide +kernel
theorem ax_d308_634 : decode code 634 = .ok (.iadd, 1) := by decide +kernel
theorem ax_d308_635 : decode code 635 = .ok (.iaload, 1) := by decide +kernel
theorem ax_d308_636 : decode code 636 = .ok (.invokevirtual 75, 3) := by decide +kernel
theorem ax_d308_639 : decode code 639 = .ok (.if_icmp .eq 803, 3) := by decide +kernel
theorem ax_d308_642 : decode code 642 = .ok (.iconst 0, 1) := by decide +kernel
theorem ax_d308_643 : decode code 643 = .ok (.ireturn, 1) := by decide +kernel
theorem ax_d308_644 : decode code 644 = .ok (.aload_n 1, 1) := by decide +kernel
theorem ax_d308_645 : decode code 645 = .ok (.aload_n 0, 1) := by decide +kernel
theorem ax_d308_646 : decode code 646 = .ok (.iload_n 3, 1) := by decide +kernel
theorem ax_d308_647 : decode code 647 = .ok (.iconst 1, 1) := by decide +kernel
theorem ax_d308_648 : decode code 648 = .ok (.iadd, 1) := by decide +kernel
theorem ax_d308_649 : decode code 649 = .ok (.iaload, 1) := by decide +kernel
theorem ax_d308_650 : decode code 650 = .ok (.aload_n 0, 1) := by decide +kernel
theorem ax_d308_651 : decode code 651 = .ok (.iload_n 3, 1) := by decide +kernel
theorem ax_d308_652 : decode code 652 = .ok (.iconst 2, 1) := by decide +kernel
theorem ax_d308_653 : decode code 653 = .ok (.iadd, 1) := by decide +kernel
theorem ax_d308_654 : decode code 654 = .ok (.iaload, 1) := by decide +kernel
theorem ax_d308_655 : decode code 655 = .ok (.invokevirtual 76, 3) := by decide +kernel
theorem ax_d308_658 : decode code 658 = .ok (.aload_n 2, 1) := by decide +kernel
theorem ax_d308_659 : decode code 659 = .ok (.aload_n 0, 1) := by decide +kernel
theorem ax_d308_660 : decode code 660 = .ok (.iload_n 3, 1) := by decide +kernel
theorem ax_d308_661 : decode code 661 = .ok (.iconst 1, 1) := by decide +kernel
theorem ax_d308_662 : decode code 662 = .ok (.iadd, 1) := by decide +kernel
theorem ax_d308_663 : decode code 663 = .ok (.iaload, 1) := by decide +kernel
theorem ax_d308_664 : decode code 664 = .ok (.aload_n 0, 1) := by decide +kernel
theorem ax_d308_665 : decode code 665 = .ok (.iload_n 3, 1) := by decide +kernel
theorem ax_d308_666 : decode code 666 = .ok (.iconst 2, 1) := by decide +kernel
theorem ax_d308_667 : decode code 667 = .ok (.iadd, 1) := by decide +kernel
theorem ax_d308_668 : decode code 668 = .ok (.iaload, 1) := by decide +kernel
theorem ax_d308_669 : decode code 669 = .ok (.invokevirtual 79, 3) := by decide +kernel
theorem ax_d308_672 : decode code 672 = .ok (.if_icmp .eq 770, 3) := by decide +kernel
theorem ax_d308_675 : decode code 675 = .ok (.iconst 0, 1) := by decide +kernel
theorem ax_d308_676 : decode code 676 = .ok (.ireturn, 1) := by decide +kernel
theorem ax_d308_677 : decode code 677 = .ok (.aload_n 1, 1) := by decide +kernel
theorem ax_d308_678 : decode code 678 = .ok (.invokevirtual 80, 3) := by decide +kernel
theorem ax_d308_681 : decode code 681 = .ok (.aload_n 2, 1) := by decide +kernel
theorem ax_d308_682 : decode code 682 = .ok (.invokevirtual 83, 3) := by decide +kernel
theorem ax_d308_685 : decode code 685 = .ok (.if_icmp .eq 757, 3) := by decide +kernel
theorem ax_d308_688 : decode code 688 = .ok (.iconst 0, 1) := by decide +kernel
theorem ax_d308_689 : decode code 689 = .ok (.ireturn, 1) := by decide +kernel
theorem ax_d308_690 : decode code 690 = .ok (.aload_n 1, 1) := by decide +kernel
theorem ax_d308_691 : decode code 691 = .ok (.aload_n 0, 1) := by decide +kernel
theorem ax_d308_692 : decode code 692 = .ok (.iload_n 3, 1) := by decide +kernel
theorem ax_d308_693 : decode code 693 = .ok (.iconst 1, 1) := by decide +kernel
theorem ax_d308_694 : decode code 694 = .ok (.iadd, 1) := by decide +kernel
theorem ax_d308_695 : decode code 695 = .ok (.iaload, 1) := by decide +kernel
theorem ax_d308_696 : decode code 696 = .ok (.aload_n 0, 1) := by decide +kernel
theorem ax_d308_697 : decode code 697 = .ok (.iload_n 3, 1) := by decide +kernel
theorem ax_d308_698 : decode code 698 = .ok (.iconst 2, 1) := by decide +kernel
theorem ax_d308_699 : decode code 699 = .ok (.iadd, 1) := by decide +kernel
theorem ax_d308_700 : decode code 700 = .ok (.iaload, 1) := by decide +kernel
theorem ax_d308_701 : decode code 701 = .ok (.aload_n 0, 1) := by decide +kernel
theorem ax_d308_702 : decode code 702 = .ok (.iload_n 3, 1) := by decide +kernel
theorem ax_d308_703 : decode code 703 = .ok (.iconst 3, 1) := by decide +kernel
theorem ax_d308_704 : decode code 704 = .ok (.iadd, 1) := by decide +kernel
theorem ax_d308_705 : decode code 705 = .ok (.iaload, 1) := by decide +kernel
theorem ax_d308_706 : decode code 706 = .ok (.invokevirtual 84, 3) := by decide +kernel
theorem ax_d308_709 : decode code 709 = .ok (.aload_n 2, 1) := by decide +kernel
theorem ax_d308_710 : decode code 710 = .ok (.aload_n 0, 1) := by decide +kernel
theorem ax_d308_711 : decode code 711 = .ok (.iload_n 3, 1) := by decide +kernel
theorem ax_d308_712 : decode code 712 = .ok (.iconst 1, 1) := by decide +kernel
theorem ax_d308_713 : decode code 713 = .ok (.iadd, 1) := by decide +kernel
theorem ax_d308_714 : decode code 714 = .ok (.iaload, 1) := by decide +kernel
theorem ax_d308_715 : decode code 715 = .ok (.aload_n 0, 1) := by decide +kernel
theorem ax_d308_716 : decode code 716 = .ok (.iload_n 3, 1) := by decide +kernel
theorem ax_d308_717 : decode code 717 = .ok (.iconst 2, 1) := by decide +kernel
theorem ax_d308_718 : decode code 718 = .ok (.iadd, 1) := by decide +kernel
theorem ax_d308_719 : decode code 719 = .ok (.iaload, 1) := by decide +kernel
theorem ax_d308_720 : decode code 720 = .ok (.aload_n 0, 1) := by decide +kernel
theorem ax_d308_721 : decode code 721 = .ok (.iload_n 3, 1) := by decide +kernel
theorem ax_d308_722 : decode code 722 = .ok (.iconst 3, 1) := by decide +kernel
theorem ax_d308_723 : decode code 723 = .ok (.iadd, 1) := by decide +kernel
theorem ax_d308_724 : decode code 724 = .ok (.iaload, 1) := by decide +kernel
theorem ax_d308_725 : decode code 725 = .ok (.invokevirtual 87, 3) := by decide +kernel
theorem ax_d308_728 : decode code 728 = .ok (.if_icmp .eq 714, 3) := by decide +kernel
theorem ax_d308_731 : decode code 731 = .ok (.iconst 0, 1) := by decide +kernel
theorem ax_d308_732 : decode code 732 = .ok (.ireturn, 1) := by decide +kernel
theorem ax_d308_733 : decode code 733 = .ok (.aload_n 1, 1) := by decide +kernel
theorem ax_d308_734 : decode code 734 = .ok (.aload_n 0, 1) := by decide +kernel
theorem ax_d308_735 : decode code 735 = .ok (.iload_n 3, 1) := by decide +kernel
theorem ax_d308_736 : decode code 736 = .ok (.iconst 1, 1) := by decide +kernel
theorem ax_d308_737 : decode code 737 = .ok (.iadd, 1) := by decide +kernel
theorem ax_d308_738 : decode code 738 = .ok (.iaload, 1) := by decide +kernel
theorem ax_d308_739 : decode code 739 = .ok (.invokevirtual 88, 3) := by decide +kernel
theorem ax_d308_742 : decode code 742 = .ok (.aload_n 2, 1) := by decide +kernel
theorem ax_d308_743 : decode code 743 = .ok (.aload_n 0, 1) := by decide +kernel
theorem ax_d308_744 : decode code 744 = .ok (.iload_n 3, 1) := by decide +kernel
theorem ax_d308_745 : decode code 745 = .ok (.iconst 1, 1) := by decide +kernel
theorem ax_d308_746 : decode code 746 = .ok (.iadd, 1) := by decide +kernel
theorem ax_d308_747 : decode code 747 = .ok (.iaload, 1) := by decide +kernel
theorem ax_d308_748 : decode code 748 = .ok (.invokevirtual 91, 3) := by decide +kernel
theorem ax_d308_751 : decode code 751 = .ok (.if_icmp .eq 691, 3) := by decide +kernel
theorem ax_d308_754 : decode code 754 = .ok (.iconst 0, 1) := by decide +kernel
theorem ax_d308_755 : decode code 755 = .ok (.ireturn, 1) := by decide +kernel
theorem ax_d308_756 : decode code 756 = .ok (.aload_n 1, 1) := by decide +kernel
theorem ax_d308_757 : decode code 757 = .ok (.aload_n 0, 1) := by decide +kernel
theorem ax_d308_758 : decode code 758 = .ok (.iload_n 3, 1) := by decide +kernel
theorem ax_d308_759 : decode code 759 = .ok (.iconst 1, 1) := by decide +kernel
theorem ax_d308_760 : decode code 760 = .ok (.iadd, 1) := by decide +kernel
theorem ax_d308_761 : decode code 761 = .ok (.iaload, 1) := by decide +kernel
theorem ax_d308_762 : decode code 762 = .ok (.aload_n 0, 1) := by decide +kernel
theorem ax_d308_763 : decode code 763 = .ok (.iload_n 3, 1) := by decide +kernel
theorem ax_d308_764 : decode code 764 = .ok (.iconst 2, 1) := by decide +kernel
theorem ax_d308_765 : decode code 765 = .ok (.iadd, 1) := by decide +kernel
theorem ax_d308_766 : decode code 766 = .ok (.iaload, 1) := by decide +kernel
theorem ax_d308_767 : decode code 767 = .ok (.invokevirtual 92, 3) := by decide +kernel
theorem ax_d308_770 : decode code 770 = .ok (.aload_n 2, 1) := by decide +kernel
theorem ax_d308_771 : decode code 771 = .ok (.aload_n 0, 1) := by decide +kernel
theorem ax_d308_772 : decode code 772 = .ok (.iload_n 3, 1) := by decide +kernel
theorem ax_d308_773 : decode code 773 = .ok (.iconst 1, 1) := by decide +kernel
theorem ax_d308_774 : decode code 774 = .ok (.iadd, 1) := by decide +kernel
theorem ax_d308_775 : decode code 775 = .ok (.iaload, 1) := by decide +kernel
theorem ax_d308_776 : decode code 776 = .ok (.aload_n 0, 1) := by decide +kernel
theorem ax_d308_777 : decode code 777 = .ok (.iload_n 3, 1) := by decide +kernel
theorem ax_d308_778 : decode code 778 = .ok (.iconst 2, 1) := by decide +kernel
theorem ax_d308_779 : decode code 779 = .ok (.iadd, 1) := by decide +kernel
theorem ax_d308_780 : decode code 780 = .ok (.iaload, 1) := by decide +kernel
theorem ax_d308_781 : decode code 781 = .ok (.invokevirtual 95, 3) := by decide +kernel
theorem ax_d308_784 : decode code 784 = .ok (.if_icmp .eq 658, 3) := by decide +kernel
theorem ax_d308_787 : decode code 787 = .ok (.iconst 0, 1) := by decide +kernel
theorem ax_d308_788 : decode code 788 = .ok (.ireturn, 1) := by decide +kernel
theorem ax_d308_789 : decode code 789 = .ok (.aload_n 1, 1) := by decide +kernel
theorem ax_d308_790 : decode code 790 = .ok (.aload_n 0, 1) := by decide +kernel
theorem ax_d308_791 : decode code 791 = .ok (.iload_n 3, 1) := by decide +kernel
theorem ax_d308_792 : decode code 792 = .ok (.iconst 1, 1) := by decide +kernel
theorem ax_d308_793 : decode code 793 = .ok (.iadd, 1) := by decide +kernel
theorem ax_d308_794 : decode code 794 = .ok (.iaload, 1) := by decide +kernel
theorem ax_d308_795 : decode code 795 = .ok (.invokevirtual 96, 3) := by decide +kernel
theorem ax_d308_798 : decode code 798 = .ok (.aload_n 2, 1) := by decide +kernel
theorem ax_d308_799 : decode code 799 = .ok (.aload_n 0, 1) := by decide +kernel
theorem ax_d308_800 : decode code 800 = .ok (.iload_n 3, 1) := by decide +kernel
theorem ax_d308_801 : decode code 801 = .ok (.iconst 1, 1) := by decide +kernel
theorem ax_d308_802 : decode code 802 = .ok (.iadd, 1) := by decide +kernel
theorem ax_d308_803 : decode code 803 = .ok (.iaload, 1) := by decide +kernel
theorem ax_d308_804 : decode code 804 = .ok (.invokevirtual 99, 3) := by decide +kernel
theorem ax_d308_807 : decode code 807 = .ok (.if_icmp .eq 635, 3) := by decide +kernel
theorem ax_d308_810 : decode code 810 = .ok (.iconst 0, 1) := by decide +kernel
theorem ax_d308_811 : decode code 811 = .ok (.ireturn, 1) := by decide +kernel
theorem ax_d308_812 : decode code 812 = .ok (.aload_n 1, 1) := by decide +kernel
theorem ax_d308_813 : decode code 813 = .ok (.aload_n 0, 1) := by decide +kernel
theorem ax_d308_814 : decode code 814 = .ok (.iload_n 3, 1) := by decide +kernel
theorem ax_d308_815 : decode code 815 = .ok (.iconst 1, 1) := by decide +kernel
theorem ax_d308_816 : decode code 816 = .ok (.iadd, 1) := by decide +kernel
theorem ax_d308_817 : decode code 817 = .ok (.iaload, 1) := by decide +kernel
theorem ax_d308_818 : decode code 818 = .ok (.invokevirtual 100, 3) := by decide +kernel
theorem ax_d308_821 : decode code 821 = .ok (.aload_n 2, 1) := by decide +kernel
theorem ax_d308_822 : decode code 822 = .ok (.aload_n 0, 1) := by decide +kernel
theorem ax_d308_823 : decode code 823 = .ok (.iload_n 3, 1) := by decide +kernel
theorem ax_d308_824 : decode code 824 = .ok (.iconst 1, 1) := by decide +kernel
theorem ax_d308_825 : decode code 825 = .ok (.iadd, 1) := by decide +kernel
theorem ax_d308_826 : decode code 826 = .ok (.iaload, 1) := by decide +kernel
theorem ax_d308_827 : decode code 827 = .ok (.invokevirtual 103, 3) := by decide +kernel
theorem ax_d308_830 : decode code 830 = .ok (.if_icmp .eq 612, 3) := by decide +kernel
theorem ax_d308_833 : decode code 833 = .ok (.iconst 0, 1) := by decide +kernel
theorem ax_d308_834 : decode code 834 = .ok (.ireturn, 1) := by decide +kernel
theorem ax_d308_835 : decode code 835 = .ok (.aload_n 1, 1) := by decide +kernel
theorem ax_d308_836 : decode code 836 = .ok (.aload_n 0, 1) := by decide +kernel
theorem ax_d308_837 : decode code 837 = .ok (.iload_n 3, 1) := by decide +kernel
theorem ax_d308_838 : decode code 838 = .ok (.iconst 1, 1) := by decide +kernel
theorem ax_d308_839 : decode code 839 = .ok (.iadd, 1) := by decide +kernel
theorem ax_d308_840 : decode code 840 = .ok (.iaload, 1) := by decide +kernel
theorem ax_d308_841 : decode code 841 = .ok (.aload_n 0, 1) := by decide +kernel
theorem ax_d308_842 : decode code 842 = .ok (.iload_n 3, 1) := by decide +kernel
theorem ax_d308_843 : decode code 843 = .ok (.iconst 2, 1) := by decide +kernel
theorem ax_d308_844 : decode code 844 = .ok (.iadd, 1) := by decide +kernel
theorem ax_d308_845 : decode code 845 = .ok (.iaload, 1) := by decide +kernel
theorem ax_d308_846 : decode code 846 = .ok (.invokevirtual 104, 3) := by decide +kernel
theorem ax_d308_849 : decode code 849 = .ok (.aload_n 2, 1) := by decide +kernel
theorem ax_d308_850 : decode code 850 = .ok (.aload_n 0, 1) := by decide +kernel
theorem ax_d308_851 : decode code 851 = .ok (.iload_n 3, 1) := by decide +kernel
theorem ax_d308_852 : decode code 852 = .ok (.iconst 1, 1) := by decide +kernel
theorem ax_d308_853 : decode code 853 = .ok (.iadd, 1) := by decide +kernel
theorem ax_d308_854 : decode code 854 = .ok (.iaload, 1) := by decide +kernel
theorem ax_d308_855 : decode code 855 = .ok (.aload_n 0, 1) := by decide +kernel
theorem ax_d308_856 : decode code 856 = .ok (.iload_n 3, 1) := by decide +kernel
theorem ax_d308_857 : decode code 857 = .ok (.iconst 2, 1) := by decide +kernel
theorem ax_d308_858 : decode code 858 = .ok (.iadd, 1) := by decide +kernel
theorem ax_d308_859 : decode code 859 = .ok (.iaload, 1) := by decide +kernel
theorem ax_d308_860 : decode code 860 = .ok (.invokevirtual 107, 3) := by decide +kernel
theorem ax_d308_863 : decode code 863 = .ok (.if_icmp .eq 579, 3) := by decide +kernel
theorem ax_d308_866 : decode code 866 = .ok (.iconst 0, 1) := by decide +kernel
theorem ax_d308_867 : decode code 867 = .ok (.ireturn, 1) := by decide +kernel
theorem ax_d308_868 : decode code 868 = .ok (.aload_n 1, 1) := by decide +kernel
theorem ax_d308_869 : decode code 869 = .ok (.aload_n 0, 1) := by decide +kernel
theorem ax_d308_870 : decode code 870 = .ok (.iload_n 3, 1) := by decide +kernel
theorem ax_d308_871 : decode code 871 = .ok (.iconst 1, 1) := by decide +kernel
theorem ax_d308_872 : decode code 872 = .ok (.iadd, 1) := by decide +kernel
theorem ax_d308_873 : decode code 873 = .ok (.iaload, 1) := by decide +kernel
theorem ax_d308_874 : decode code 874 = .ok (.aload_n 0, 1) := by decide +kernel
theorem ax_d308_875 : decode code 875 = .ok (.iload_n 3, 1) := by decide +kernel
theorem ax_d308_876 : decode code 876 = .ok (.iconst 2, 1) := by decide +kernel
theorem ax_d308_877 : decode code 877 = .ok (.iadd, 1) := by decide +kernel
theorem ax_d308_878 : decode code 878 = .ok (.iaload, 1) := by decide +kernel
theorem ax_d308_879 : decode code 879 = .ok (.invokevirtual 108, 3) := by decide +kernel
theorem ax_d308_882 : decode code 882 = .ok (.aload_n 2, 1) := by decide +kernel
theorem ax_d308_883 : decode code 883 = .ok (.aload_n 0, 1) := by decide +kernel
theorem ax_d308_884 : decode code 884 = .ok (.iload_n 3, 1) := by decide +kernel
theorem ax_d308_885 : decode code 885 = .ok (.iconst 1, 1) := by decide +kernel
theorem ax_d308_886 : decode code 886 = .ok (.iadd, 1) := by decide +kernel
theorem ax_d308_887 : decode code 887 = .ok (.iaload, 1) := by decide +kernel
theorem ax_d308_888 : decode code 888 = .ok (.aload_n 0, 1) := by decide +kernel
theorem ax_d308_889 : decode code 889 = .ok (.iload_n 3, 1) := by decide +kernel
theorem ax_d308_890 : decode code 890 = .ok (.iconst 2, 1) := by decide +kernel
theorem ax_d308_891 : decode code 891 = .ok (.iadd, 1) := by decide +kernel
theorem ax_d308_892 : decode code 892 = .ok (.iaload, 1) := by decide +kernel
theorem ax_d308_893 : decode code 893 = .ok (.invokevirtual 111, 3) := by decide +kernel
theorem ax_d308_896 : decode code 896 = .ok (.if_icmp .eq 546, 3) := by decide +kernel
theorem ax_d308_899 : decode code 899 = .ok (.iconst 0, 1) := by decide +kernel
theorem ax_d308_900 : decode code 900 = .ok (.ireturn, 1) := by decide +kernel
theorem ax_d308_901 : decode code 901 = .ok (.aload_n 1, 1) := by decide +kernel
theorem ax_d308_902 : decode code 902 = .ok (.aload_n 0, 1) := by decide +kernel
theorem ax_d308_903 : decode code 903 = .ok (.iload_n 3, 1) := by decide +kernel
theorem ax_d308_904 : decode code 904 = .ok (.iconst 1, 1) := by decide +kernel
theorem ax_d308_905 : decode code 905 = .ok (.iadd, 1) := by decide +kernel
theorem ax_d308_906 : decode code 906 = .ok (.iaload, 1) := by decide +kernel
theorem ax_d308_907 : decode code 907 = .ok (.aload_n 0, 1) := by decide +kernel
theorem ax_d308_908 : decode code 908 = .ok (.iload_n 3, 1) := by decide +kernel
theorem ax_d308_909 : decode code 909 = .ok (.iconst 2, 1) := by decide +kernel
theorem ax_d308_910 : decode code 910 = .ok (.iadd, 1) := by decide +kernel
theorem ax_d308_911 : decode code 911 = .ok (.iaload, 1) := by decide +kernel
theorem ax_d308_912 : decode code 912 = .ok (.aload_n 0, 1) := by decide +kernel
theorem ax_d308_913 : decode code 913 = .ok (.iload_n 3, 1) := by decide +kernel
theorem ax_d308_914 : decode code 914 = .ok (.iconst 3, 1) := by decide +kernel
theorem ax_d308_915 : decode code 915 = .ok (.iadd, 1) := by decide +kernel
theorem ax_d308_916 : decode code 916 = .ok (.iaload, 1) := by decide +kernel
theorem ax_d308_917 : decode code 917 = .ok (.invokevirtual 112, 3) := by decide +kernel
theorem ax_d308_920 : decode code 920 = .ok (.aload_n 2, 1) := by decide +kernel
theorem ax_d308_921 : decode code 921 = .ok (.aload_n 0, 1) := by decide +kernel
theorem ax_d308_922 : decode code 922 = .ok (.iload_n 3, 1) := by decide +kernel
theorem ax_d308_923 : decode code 923 = .ok (.iconst 1, 1) := by decide +kernel
theorem ax_d308_924 : decode code 924 = .ok (.iadd, 1) := by decide +kernel
theorem ax_d308_925 : decode code 925 = .ok (.iaload, 1) := by decide +kernel
theorem ax_d308_926 : decode code 926 = .ok (.aload_n 0, 1) := by decide +kernel
theorem ax_d308_927 : decode code 927 = .ok (.iload_n 3, 1) := by decide +kernel
theorem ax_d308_928 : decode code 928 = .ok (.iconst 2, 1) := by decide +kernel
theorem ax_d308_929 : decode code 929 = .ok (.iadd, 1) := by decide +kernel
theorem ax_d308_930 : decode code 930 = .ok (.iaload, 1) := by decide +kernel
theorem ax_d308_931 : decode code 931 = .ok (.aload_n 0, 1) := by decide +kernel
theorem ax_d308_932 : decode code 932 = .ok (.iload_n 3, 1) := by decide +kernel
theorem ax_d308_933 : decode code 933 = .ok (.iconst 3, 1) := by decide +kernel
theorem ax_d308_934 : decode code 934 = .ok (.iadd, 1) := by decide +kernel
theorem ax_d308_935 : decode code 935 = .ok (.iaload, 1) := by decide +kernel
theorem ax_d308_936 : decode code 936 = .ok (.invokevirtual 115, 3) := by decide +kernel
theorem ax_d308_939 : decode code 939 = .ok (.if_icmp .eq 503, 3) := by decide +kernel
theorem ax_d308_942 : decode code 942 = .ok (.iconst 0, 1) := by decide +kernel
theorem ax_d308_943 : decode code 943 = .ok (.ireturn, 1) := by decide +kernel
theorem ax_d308_944 : decode code 944 = .ok (.aload_n 1, 1) := by decide +kernel
theorem ax_d308_945 : decode code 945 = .ok (.aload_n 0, 1) := by decide +kernel
theorem ax_d308_946 : decode code 946 = .ok (.iload_n 3, 1) := by decide +kernel
theorem ax_d308_947 : decode code 947 = .ok (.iconst 1, 1) := by decide +kernel
theorem ax_d308_948 : decode code 948 = .ok (.iadd, 1) := by decide +kernel
theorem ax_d308_949 : decode code 949 = .ok (.iaload, 1) := by decide +kernel
theorem ax_d308_950 : decode code 950 = .ok (.invokevirtual 116, 3) := by decide +kernel
theorem ax_d308_953 : decode code 953 = .ok (.aload_n 2, 1) := by decide +kernel
theorem ax_d308_954 : decode code 954 = .ok (.aload_n 0, 1) := by decide +kernel
theorem ax_d308_955 : decode code 955 = .ok (.iload_n 3, 1) := by decide +kernel
theorem ax_d308_956 : decode code 956 = .ok (.iconst 1, 1) := by decide +kernel
theorem ax_d308_957 : decode code 957 = .ok (.iadd, 1) := by decide +kernel
theorem ax_d308_958 : decode code 958 = .ok (.iaload, 1) := by decide +kernel
theorem ax_d308_959 : decode code 959 = .ok (.invokevirtual 119, 3) := by decide +kernel
theorem ax_d308_962 : decode code 962 = .ok (.if_icmp .eq 480, 3) := by decide +kernel
theorem ax_d308_965 : decode code 965 = .ok (.iconst 0, 1) := by decide +kernel
theorem ax_d308_966 : decode code 966 = .ok (.ireturn, 1) := by decide +kernel
theorem ax_d308_967 : decode code 967 = .ok (.aload_n 1, 1) := by decide +kernel
theorem ax_d308_968 : decode code 968 = .ok (.aload_n 0, 1) := by decide +kernel
theorem ax_d308_969 : decode code 969 = .ok (.iload_n 3, 1) := by decide +kernel
theorem ax_d308_970 : decode code 970 = .ok (.iconst 1, 1) := by decide +kernel
theorem ax_d308_971 : decode code 971 = .ok (.iadd, 1) := by decide +kernel
theorem ax_d308_972 : decode code 972 = .ok (.iaload, 1) := by decide +kernel
theorem ax_d308_973 : decode code 973 = .ok (.invokevirtual 120, 3) := by decide +kernel
theorem ax_d308_976 : decode code 976 = .ok (.aload_n 2, 1) := by decide +kernel
theorem ax_d308_977 : decode code 977 = .ok (.aload_n 0, 1) := by decide +kernel
theorem ax_d308_978 : decode code 978 = .ok (.iload_n 3, 1) := by decide +kernel
theorem ax_d308_979 : decode code 979 = .ok (.iconst 1, 1) := by decide +kernel
theorem ax_d308_980 : decode code 980 = .ok (.iadd, 1) := by decide +kernel
theorem ax_d308_981 : decode code 981 = .ok (.iaload, 1) := by decide +kernel
theorem ax_d308_982 : decode code 982 = .ok (.invokevirtual 123, 3) := by decide +kernel
theorem ax_d308_985 : decode code 985 = .ok (.if_icmp .eq 457, 3) := by decide +kernel
theorem ax_d308_988 : decode code 988 = .ok (.iconst 0, 1) := by decide +kernel
theorem ax_d308_989 : decode code 989 = .ok (.ireturn, 1) := by decide +kernel
theorem ax_d308_990 : decode code 990 = .ok (.aload_n 1, 1) := by decide +kernel
theorem ax_d308_991 : decode code 991 = .ok (.aload_n 0, 1) := by decide +kernel
theorem ax_d308_992 : decode code 992 = .ok (.iload_n 3, 1) := by decide +kernel
theorem ax_d308_993 : decode code 993 = .ok (.iconst 1, 1) := by decide +kernel
theorem ax_d308_994 : decode code 994 = .ok (.iadd, 1) := by decide +kernel
theorem ax_d308_995 : decode code 995 = .ok (.iaload, 1) := by decide +kernel
theorem ax_d308_996 : decode code 996 = .ok (.invokevirtual 124, 3) := by decide +kernel
theorem ax_d308_999 : decode code 999 = .ok (.aload_n 2, 1) := by decide +kernel
theorem ax_d308_1000 : decode code 1000 = .ok (.aload_n 0, 1) := by decide +kernel
theorem ax_d308_1001 : decode code 1001 = .ok (.iload_n 3, 1) := by decide +kernel
theorem ax_d308_1002 : decode code 1002 = .ok (.iconst 1, 1) := by decide +kernel
theorem ax_d308_1003 : decode code 1003 = .ok (.iadd, 1) := by decide +kernel
theorem ax_d308_1004 : decode code 1004 = .ok (.iaload, 1) := by decide +kernel
theorem ax_d308_1005 : decode code 1005 = .ok (.invokevirtual 127, 3) := by decide +kernel
theorem ax_d308_1008 : decode code 1008 = .ok (.if_icmp .eq 434, 3) := by decide +kernel
theorem ax_d308_1011 : decode code 1011 = .ok (.iconst 0, 1) := by decide +kernel
theorem ax_d308_1012 : decode code 1012 = .ok (.ireturn, 1) := by decide +kernel
theorem ax_d308_1013 : decode code 1013 = .ok (.aload_n 1, 1) := by decide +kernel
theorem ax_d308_1014 : decode code 1014 = .ok (.aload_n 0, 1) := by decide +kernel
theorem ax_d308_1015 : decode code 1015 = .ok (.iload_n 3, 1) := by decide +kernel
theorem ax_d308_1016 : decode code 1016 = .ok (.iconst 1, 1) := by decide +kernel
theorem ax_d308_1017 : decode code 1017 = .ok (.iadd, 1) := by decide +kernel
theorem ax_d308_1018 : decode code 1018 = .ok (.iaload, 1) := by decide +kernel
theorem ax_d308_1019 : decode code 1019 = .ok (.invokevirtual 128, 3) := by decide +kernel
theorem ax_d308_1022 : decode code 1022 = .ok (.aload_n 2, 1) := by decide +kernel
theorem ax_d308_1023 : decode code 1023 = .ok (.aload_n 0, 1) := by decide +kernel
theorem ax_d308_1024 : decode code 1024 = .ok (.iload_n 3, 1) := by decide +kernel
theorem ax_d308_1025 : decode code 1025 = .ok (.iconst 1, 1) := by decide +kernel
theorem ax_d308_1026 : decode code 1026 = .ok (.iadd, 1) := by decide +kernel
theorem ax_d308_1027 : decode code 1027 = .ok (.iaload, 1) := by decide +kernel
theorem ax_d308_1028 : decode code 1028 = .ok (.invokevirtual 131, 3) := by decide +kernel
theorem ax_d308_1031 : decode code 1031 = .ok (.if_icmp .eq 411, 3) := by decide +kernel
theorem ax_d308_1034 : decode code 1034 = .ok (.iconst 0, 1) := by decide +kernel
theorem ax_d308_1035 : decode code 1035 = .ok (.ireturn, 1) := by decide +kernel
theorem ax_d308_1036 : decode code 1036 = .ok (.aload_n 1, 1) := by decide +kernel
theorem ax_d308_1037 : decode code 1037 = .ok (.aload_n 0, 1) := by decide +kernel
theorem ax_d308_1038 : decode code 1038 = .ok (.iload_n 3, 1) := by decide +kernel
theorem ax_d308_1039 : decode code 1039 = .ok (.iconst 1, 1) := by decide +kernel
theorem ax_d308_1040 : decode code 1040 = .ok (.iadd, 1) := by decide +kernel
theorem ax_d308_1041 : decode code 1041 = .ok (.iaload, 1) := by decide +kernel
theorem ax_d308_1042 : decode code 1042 = .ok (.aload_n 0, 1) := by decide +kernel
theorem ax_d308_1043 : decode code 1043 = .ok (.iload_n 3, 1) := by decide +kernel
theorem ax_d308_1044 : decode code 1044 = .ok (.iconst 2, 1) := by decide +kernel
theorem ax_d308_1045 : decode code 1045 = .ok (.iadd, 1) := by decide +kernel
theorem ax_d308_1046 : decode code 1046 = .ok (.iaload, 1) := by decide +kernel
theorem ax_d308_1047 : decode code 1047 = .ok (.aload_n 0, 1) := by decide +kernel
theorem ax_d308_1048 : decode code 1048 = .ok (.iload_n 3, 1) := by decide +kernel
theorem ax_d308_1049 : decode code 1049 = .ok (.iconst 3, 1) := by decide +kernel
theorem ax_d308_1050 : decode code 1050 = .ok (.iadd, 1) := by decide +kernel
theorem ax_d308_1051 : decode code 1051 = .ok (.iaload, 1) := by decide +kernel
theorem ax_d308_1052 : decode code 1052 = .ok (.invokevirtual 132, 3) := by decide +kernel
theorem ax_d308_1055 : decode code 1055 = .ok (.aload_n 2, 1) := by decide +kernel
theorem ax_d308_1056 : decode code 1056 = .ok (.aload_n 0, 1) := by decide +kernel
theorem ax_d308_1057 : decode code 1057 = .ok (.iload_n 3, 1) := by decide +kernel
theorem ax_d308_1058 : decode code 1058 = .ok (.iconst 1, 1) := by decide +kernel
theorem ax_d308_1059 : decode code 1059 = .ok (.iadd, 1) := by decide +kernel
theorem ax_d308_1060 : decode code 1060 = .ok (.iaload, 1) := by decide +kernel
theorem ax_d308_1061 : decode code 1061 = .ok (.aload_n 0, 1) := by decide +kernel
theorem ax_d308_1062 : decode code 1062 = .ok (.iload_n 3, 1) := by decide +kernel
theorem ax_d308_1063 : decode code 1063 = .ok (.iconst 2, 1) := by decide +kernel
theorem ax_d308_1064 : decode code 1064 = .ok (.iadd, 1) := by decide +kernel
theorem ax_d308_1065 : decode code 1065 = .ok (.iaload, 1) := by decide +kernel
theorem ax_d308_1066 : decode code 1066 = .ok (.aload_n 0, 1) := by decide +kernel
theorem ax_d308_1067 : decode code 1067 = .ok (.iload_n 3, 1) := by decide +kernel
theorem ax_d308_1068 : decode code 1068 = .ok (.iconst 3, 1) := by decide +kernel
theorem ax_d308_1069 : decode code 1069 = .ok (.iadd, 1) := by decide +kernel
theorem ax_d308_1070 : decode code 1070 = .ok (.iaload, 1) := by decide +kernel
theorem ax_d308_1071 : decode code 1071 = .ok (.invokevirtual 135, 3) := by decide +kernel
theorem ax_d308_1074 : decode code 1074 = .ok (.if_icmp .eq 368, 3) := by decide +kernel
theorem ax_d308_1077 : decode code 1077 = .ok (.iconst 0, 1) := by decide +kernel
theorem ax_d308_1078 : decode code 1078 = .ok (.ireturn, 1) := by decide +kernel
theorem ax_d308_1079 : decode code 1079 = .ok (.aload_n 1, 1) := by decide +kernel
theorem ax_d308_1080 : decode code 1080 = .ok (.aload_n 0, 1) := by decide +kernel
theorem ax_d308_1081 : decode code 1081 = .ok (.iload_n 3, 1) := by decide +kernel
theorem ax_d308_1082 : decode code 1082 = .ok (.iconst 1, 1) := by decide +kernel
theorem ax_d308_1083 : decode code 1083 = .ok (.iadd, 1) := by decide +kernel
theorem ax_d308_1084 : decode code 1084 = .ok (.iaload, 1) := by decide +kernel
theorem ax_d308_1085 : decode code 1085 = .ok (.invokevirtual 136, 3) := by decide +kernel
theorem ax_d308_1088 : decode code 1088 = .ok (.aload_n 2, 1) := by decide +kernel
theorem ax_d308_1089 : decode code 1089 = .ok (.aload_n 0, 1) := by decide +kernel
theorem ax_d308_1090 : decode code 1090 = .ok (.iload_n 3, 1) := by decide +kernel
theorem ax_d308_1091 : decode code 1091 = .ok (.iconst 1, 1) := by decide +kernel
theorem ax_d308_1092 : decode code 1092 = .ok (.iadd, 1) := by decide +kernel
theorem ax_d308_1093 : decode code 1093 = .ok (.iaload, 1) := by decide +kernel
theorem ax_d308_1094 : decode code 1094 = .ok (.invokevirtual 139, 3) := by decide +kernel
theorem ax_d308_1097 : decode code 1097 = .ok (.if_icmp .eq 345, 3) := by decide +kernel
theorem ax_d308_1100 : decode code 1100 = .ok (.iconst 0, 1) := by decide +kernel
theorem ax_d308_1101 : decode code 1101 = .ok (.ireturn, 1) := by decide +kernel
theorem ax_d308_1102 : decode code 1102 = .ok (.aload_n 1, 1) := by decide +kernel
theorem ax_d308_1103 : decode code 1103 = .ok (.invokevirtual 140, 3) := by decide +kernel
theorem ax_d308_1106 : decode code 1106 = .ok (.aload_n 2, 1) := by decide +kernel
theorem ax_d308_1107 : decode code 1107 = .ok (.invokevirtual 143, 3) := by decide +kernel
theorem ax_d308_1110 : decode code 1110 = .ok (.if_icmp .eq 332, 3) := by decide +kernel
theorem ax_d308_1113 : decode code 1113 = .ok (.iconst 0, 1) := by decide +kernel
theorem ax_d308_1114 : decode code 1114 = .ok (.ireturn, 1) := by decide +kernel
theorem ax_d308_1115 : decode code 1115 = .ok (.aload_n 1, 1) := by decide +kernel
theorem ax_d308_1116 : decode code 1116 = .ok (.invokevirtual 144, 3) := by decide +kernel
theorem ax_d308_1119 : decode code 1119 = .ok (.aload_n 2, 1) := by decide +kernel
theorem ax_d308_1120 : decode code 1120 = .ok (.invokevirtual 147, 3) := by decide +kernel
theorem ax_d308_1123 : decode code 1123 = .ok (.if_icmp .eq 319, 3) := by decide +kernel
theorem ax_d308_1126 : decode code 1126 = .ok (.iconst 0, 1) := by decide +kernel
theorem ax_d308_1127 : decode code 1127 = .ok (.ireturn, 1) := by decide +kernel
theorem ax_d308_1128 : decode code 1128 = .ok (.aload_n 1, 1) := by decide +kernel
theorem ax_d308_1129 : decode code 1129 = .ok (.aload_n 0, 1) := by decide +kernel
theorem ax_d308_1130 : decode code 1130 = .ok (.iload_n 3, 1) := by decide +kernel
theorem ax_d308_1131 : decode code 1131 = .ok (.iconst 1, 1) := by decide +kernel
theorem ax_d308_1132 : decode code 1132 = .ok (.iadd, 1) := by decide +kernel
theorem ax_d308_1133 : decode code 1133 = .ok (.iaload, 1) := by decide +kernel
theorem ax_d308_1134 : decode code 1134 = .ok (.invokevirtual 148, 3) := by decide +kernel
theorem ax_d308_1137 : decode code 1137 = .ok (.aload_n 2, 1) := by decide +kernel
theorem ax_d308_1138 : decode code 1138 = .ok (.aload_n 0, 1) := by decide +kernel
theorem ax_d308_1139 : decode code 1139 = .ok (.iload_n 3, 1) := by decide +kernel
theorem ax_d308_1140 : decode code 1140 = .ok (.iconst 1, 1) := by decide +kernel
theorem ax_d308_1141 : decode code 1141 = .ok (.iadd, 1) := by decide +kernel
theorem ax_d308_1142 : decode code 1142 = .ok (.iaload, 1) := by decide +kernel
theorem ax_d308_1143 : decode code 1143 = .ok (.invokevirtual 151, 3) := by decide +kernel
theorem ax_d308_1146 : decode code 1146 = .ok (.if_icmp .eq 296, 3) := by decide +kernel
theorem ax_d308_1149 : decode code 1149 = .ok (.iconst 0, 1) := by decide +kernel
theorem ax_d308_1150 : decode code 1150 = .ok (.ireturn, 1) := by decide +kernel
theorem ax_d308_1151 : decode code 1151 = .ok (.aload_n 1, 1) := by decide +kernel
theorem ax_d308_1152 : decode code 1152 = .ok (.aload_n 0, 1) := by decide +kernel
theorem ax_d308_1153 : decode code 1153 = .ok (.iload_n 3, 1) := by decide +kernel
theorem ax_d308_1154 : decode code 1154 = .ok (.iconst 1, 1) := by decide +kernel
theorem ax_d308_1155 : decode code 1155 = .ok (.iadd, 1) := by decide +kernel
theorem ax_d308_1156 : decode code 1156 = .ok (.iaload, 1) := by decide +kernel
theorem ax_d308_1157 : decode code 1157 = .ok (.aload_n 0, 1) := by decide +kernel
theorem ax_d308_1158 : decode code 1158 = .ok (.iload_n 3, 1) := by decide +kernel
theorem ax_d308_1159 : decode code 1159 = .ok (.iconst 2, 1) := by decide +kernel
theorem ax_d308_1160 : decode code 1160 = .ok (.iadd, 1) := by decide +kernel
theorem ax_d308_1161 : decode code 1161 = .ok (.iaload, 1) := by decide +kernel
theorem ax_d308_1162 : decode code 1162 = .ok (.invokevirtual 152, 3) := by decide +kernel
theorem ax_d308_1165 : decode code 1165 = .ok (.aload_n 2, 1) := by decide +kernel
theorem ax_d308_1166 : decode code 1166 = .ok (.aload_n 0, 1) := by decide +kernel
theorem ax_d308_1167 : decode code 1167 = .ok (.iload_n 3, 1) := by decide +kernel
theorem ax_d308_1168 : decode code 1168 = .ok (.iconst 1, 1) := by decide +kernel
theorem ax_d308_1169 : decode code 1169 = .ok (.iadd, 1) := by decide +kernel
theorem ax_d308_1170 : decode code 1170 = .ok (.iaload, 1) := by decide +kernel
theorem ax_d308_1171 : decode code 1171 = .ok (.aload_n 0, 1) := by decide +kernel
theorem ax_d308_1172 : decode code 1172 = .ok (.iload_n 3, 1) := by decide +kernel
theorem ax_d308_1173 : decode code 1173 = .ok (.iconst 2, 1) := by decide +kernel
theorem ax_d308_1174 : decode code 1174 = .ok (.iadd, 1) := by decide +kernel
theorem ax_d308_1175 : decode code 1175 = .ok (.iaload, 1) := by decide +kernel
theorem ax_d308_1176 : decode code 1176 = .ok (.invokevirtual 155, 3) := by decide +kernel
theorem ax_d308_1179 : decode code 1179 = .ok (.if_icmp .eq 263, 3) := by decide +kernel
theorem ax_d308_1182 : decode code 1182 = .ok (.iconst 0, 1) := by decide +kernel
theorem ax_d308_1183 : decode code 1183 = .ok (.ireturn, 1) := by decide +kernel
theorem ax_d308_1184 : decode code 1184 = .ok (.aload_n 1, 1) := by decide +kernel
theorem ax_d308_1185 : decode code 1185 = .ok (.aload_n 0, 1) := by decide +kernel
theorem ax_d308_1186 : decode code 1186 = .ok (.iload_n 3, 1) := by decide +kernel
theorem ax_d308_1187 : decode code 1187 = .ok (.iconst 1, 1) := by decide +kernel
theorem ax_d308_1188 : decode code 1188 = .ok (.iadd, 1) := by decide +kernel
theorem ax_d308_1189 : decode code 1189 = .ok (.iaload, 1) := by decide +kernel
theorem ax_d308_1190 : decode code 1190 = .ok (.invokevirtual 156, 3) := by decide +kernel
theorem ax_d308_1193 : decode code 1193 = .ok (.aload_n 2, 1) := by decide +kernel
theorem ax_d308_1194 : decode code 1194 = .ok (.aload_n 0, 1) := by decide +kernel
theorem ax_d308_1195 : decode code 1195 = .ok (.iload_n 3, 1) := by decide +kernel
theorem ax_d308_1196 : decode code 1196 = .ok (.iconst 1, 1) := by decide +kernel
theorem ax_d308_1197 : decode code 1197 = .ok (.iadd, 1) := by decide +kernel
theorem ax_d308_1198 : decode code 1198 = .ok (.iaload, 1) := by decide +kernel
theorem ax_d308_1199 : decode code 1199 = .ok (.invokevirtual 159, 3) := by decide +kernel
theorem ax_d308_1202 : decode code 1202 = .ok (.if_icmp .eq 240, 3) := by decide +kernel
theorem ax_d308_1205 : decode code 1205 = .ok (.iconst 0, 1) := by decide +kernel
theorem ax_d308_1206 : decode code 1206 = .ok (.ireturn, 1) := by decide +kernel
theorem ax_d308_1207 : decode code 1207 = .ok (.aload_n 1, 1) := by decide +kernel
theorem ax_d308_1208 : decode code 1208 = .ok (.aload_n 0, 1) := by decide +kernel
theorem ax_d308_1209 : decode code 1209 = .ok (.iload_n 3, 1) := by decide +kernel
theorem ax_d308_1210 : decode code 1210 = .ok (.iconst 1, 1) := by decide +kernel
theorem ax_d308_1211 : decode code 1211 = .ok (.iadd, 1) := by decide +kernel
theorem ax_d308_1212 : decode code 1212 = .ok (.iaload, 1) := by decide +kernel
theorem ax_d308_1213 : decode code 1213 = .ok (.invokevirtual 160, 3) := by decide +kernel
theorem ax_d308_1216 : decode code 1216 = .ok (.aload_n 2, 1) := by decide +kernel
theorem ax_d308_1217 : decode code 1217 = .ok (.aload_n 0, 1) := by decide +kernel
theorem ax_d308_1218 : decode code 1218 = .ok (.iload_n 3, 1) := by decide +kernel
theorem ax_d308_1219 : decode code 1219 = .ok (.iconst 1, 1) := by decide +kernel
theorem ax_d308_1220 : decode code 1220 = .ok (.iadd, 1) := by decide +kernel
theorem ax_d308_1221 : decode code 1221 = .ok (.iaload, 1) := by decide +kernel
theorem ax_d308_1222 : decode code 1222 = .ok (.invokevirtual 164, 3) := by decide +kernel
theorem ax_d308_1225 : decode code 1225 = .ok (.lcmp, 1) := by decide +kernel
theorem ax_d308_1226 : decode code 1226 = .ok (.ifCond .eq 216, 3) := by decide +kernel
theorem ax_d308_1229 : decode code 1229 = .ok (.iconst 0, 1) := by decide +kernel
theorem ax_d308_1230 : decode code 1230 = .ok (.ireturn, 1) := by decide +kernel
theorem ax_d308_1231 : decode code 1231 = .ok (.aload_n 1, 1) := by decide +kernel
theorem ax_d308_1232 : decode code 1232 = .ok (.aload_n 0, 1) := by decide +kernel
theorem ax_d308_1233 : decode code 1233 = .ok (.iload_n 3, 1) := by decide +kernel
theorem ax_d308_1234 : decode code 1234 = .ok (.iconst 1, 1) := by decide +kernel
theorem ax_d308_1235 : decode code 1235 = .ok (.iadd, 1) := by decide +kernel
theorem ax_d308_1236 : decode code 1236 = .ok (.iaload, 1) := by decide +kernel
theorem ax_d308_1237 : decode code 1237 = .ok (.invokevirtual 165, 3) := by decide +kernel
theorem ax_d308_1240 : decode code 1240 = .ok (.aload_n 2, 1) := by decide +kernel
theorem ax_d308_1241 : decode code 1241 = .ok (.aload_n 0, 1) := by decide +kernel
theorem ax_d308_1242 : decode code 1242 = .ok (.iload_n 3, 1) := by decide +kernel
theorem ax_d308_1243 : decode code 1243 = .ok (.iconst 1, 1) := by decide +kernel
theorem ax_d308_1244 : decode code 1244 = .ok (.iadd, 1) := by decide +kernel
theorem ax_d308_1245 : decode code 1245 = .ok (.iaload, 1) := by decide +kernel
theorem ax_d308_1246 : decode code 1246 = .ok (.invokevirtual 168, 3) := by decide +kernel
theorem ax_d308_1249 : decode code 1249 = .ok (.lcmp, 1) := by decide +kernel
theorem ax_d308_1250 : decode code 1250 = .ok (.ifCond .eq 192, 3) := by decide +kernel
theorem ax_d308_1253 : decode code 1253 = .ok (.iconst 0, 1) := by decide +kernel
theorem ax_d308_1254 : decode code 1254 = .ok (.ireturn, 1) := by decide +kernel
theorem ax_d308_1255 : decode code 1255 = .ok (.aload_n 1, 1) := by decide +kernel
theorem ax_d308_1256 : decode code 1256 = .ok (.invokevirtual 169, 3) := by decide +kernel
theorem ax_d308_1259 : decode code 1259 = .ok (.aload_n 2, 1) := by decide +kernel
theorem ax_d308_1260 : decode code 1260 = .ok (.invokevirtual 173, 3) := by decide +kernel
theorem ax_d308_1263 : decode code 1263 = .ok (.if_icmp .eq 179, 3) := by decide +kernel
theorem ax_d308_1266 : decode code 1266 = .ok (.iconst 0, 1) := by decide +kernel
theorem ax_d308_1267 : decode code 1267 = .ok (.ireturn, 1) := by decide +kernel
theorem ax_d308_1268 : decode code 1268 = .ok (.aload_n 1, 1) := by decide +kernel
theorem ax_d308_1269 : decode code 1269 = .ok (.aload_n 0, 1) := by decide +kernel
theorem ax_d308_1270 : decode code 1270 = .ok (.iload_n 3, 1) := by decide +kernel
theorem ax_d308_1271 : decode code 1271 = .ok (.iconst 1, 1) := by decide +kernel
theorem ax_d308_1272 : decode code 1272 = .ok (.iadd, 1) := by decide +kernel
theorem ax_d308_1273 : decode code 1273 = .ok (.iaload, 1) := by decide +kernel
theorem ax_d308_1274 : decode code 1274 = .ok (.aload_n 0, 1) := by decide +kernel
theorem ax_d308_1275 : decode code 1275 = .ok (.iload_n 3, 1) := by decide +kernel
theorem ax_d308_1276 : decode code 1276 = .ok (.iconst 2, 1) := by decide +kernel
theorem ax_d308_1277 : decode code 1277 = .ok (.iadd, 1) := by decide +kernel
theorem ax_d308_1278 : decode code 1278 = .ok (.iaload, 1) := by decide +kernel
theorem ax_d308_1279 : decode code 1279 = .ok (.invokevirtual 174, 3) := by decide +kernel
theorem ax_d308_1282 : decode code 1282 = .ok (.aload_n 2, 1) := by decide +kernel
theorem ax_d308_1283 : decode code 1283 = .ok (.aload_n 0, 1) := by decide +kernel
theorem ax_d308_1284 : decode code 1284 = .ok (.iload_n 3, 1) := by decide +kernel
theorem ax_d308_1285 : decode code 1285 = .ok (.iconst 1, 1) := by decide +kernel
theorem ax_d308_1286 : decode code 1286 = .ok (.iadd, 1) := by decide +kernel
theorem ax_d308_1287 : decode code 1287 = .ok (.iaload, 1) := by decide +kernel
theorem ax_d308_1288 : decode code 1288 = .ok (.aload_n 0, 1) := by decide +kernel
theorem ax_d308_1289 : decode code 1289 = .ok (.iload_n 3, 1) := by decide +kernel
theorem ax_d308_1290 : decode code 1290 = .ok (.iconst 2, 1) := by decide +kernel
theorem ax_d308_1291 : decode code 1291 = .ok (.iadd, 1) := by decide +kernel
theorem ax_d308_1292 : decode code 1292 = .ok (.iaload, 1) := by decide +kernel
theorem ax_d308_1293 : decode code 1293 = .ok (.invokevirtual 177, 3) := by decide +kernel
theorem ax_d308_1296 : decode code 1296 = .ok (.if_icmp .eq 146, 3) := by decide +kernel
theorem ax_d308_1299 : decode code 1299 = .ok (.iconst 0, 1) := by decide +kernel
theorem ax_d308_1300 : decode code 1300 = .ok (.ireturn, 1) := by decide +kernel
theorem ax_d308_1301 : decode code 1301 = .ok (.aload_n 1, 1) := by decide +kernel
theorem ax_d308_1302 : decode code 1302 = .ok (.aload_n 0, 1) := by decide +kernel
theorem ax_d308_1303 : decode code 1303 = .ok (.iload_n 3, 1) := by decide +kernel
theorem ax_d308_1304 : decode code 1304 = .ok (.iconst 1, 1) := by decide +kernel
theorem ax_d308_1305 : decode code 1305 = .ok (.iadd, 1) := by decide +kernel
theorem ax_d308_1306 : decode code 1306 = .ok (.iaload, 1) := by decide +kernel
theorem ax_d308_1307 : decode code 1307 = .ok (.invokevirtual 178, 3) := by decide +kernel
theorem ax_d308_1310 : decode code 1310 = .ok (.aload_n 2, 1) := by decide +kernel
theorem ax_d308_1311 : decode code 1311 = .ok (.aload_n 0, 1) := by decide +kernel
theorem ax_d308_1312 : decode code 1312 = .ok (.iload_n 3, 1) := by decide +kernel
theorem ax_d308_1313 : decode code 1313 = .ok (.iconst 1, 1) := by decide +kernel
theorem ax_d308_1314 : decode code 1314 = .ok (.iadd, 1) := by decide +kernel
theorem ax_d308_1315 : decode code 1315 = .ok (.iaload, 1) := by decide +kernel
theorem ax_d308_1316 : decode code 1316 = .ok (.invokevirtual 181, 3) := by decide +kernel
theorem ax_d308_1319 : decode code 1319 = .ok (.if_icmp .eq 123, 3) := by decide +kernel
theorem ax_d308_1322 : decode code 1322 = .ok (.iconst 0, 1) := by decide +kernel
theorem ax_d308_1323 : decode code 1323 = .ok (.ireturn, 1) := by decide +kernel
theorem ax_d308_1324 : decode code 1324 = .ok (.aload_n 1, 1) := by decide +kernel
theorem ax_d308_1325 : decode code 1325 = .ok (.aload_n 0, 1) := by decide +kernel
theorem ax_d308_1326 : decode code 1326 = .ok (.iload_n 3, 1) := by decide +kernel
theorem ax_d308_1327 : decode code 1327 = .ok (.iconst 1, 1) := by decide +kernel
theorem ax_d308_1328 : decode code 1328 = .ok (.iadd, 1) := by decide +kernel
theorem ax_d308_1329 : decode code 1329 = .ok (.iaload, 1) := by decide +kernel
theorem ax_d308_1330 : decode code 1330 = .ok (.aload_n 0, 1) := by decide +kernel
theorem ax_d308_1331 : decode code 1331 = .ok (.iload_n 3, 1) := by decide +kernel
theorem ax_d308_1332 : decode code 1332 = .ok (.iconst 2, 1) := by decide +kernel
theorem ax_d308_1333 : decode code 1333 = .ok (.iadd, 1) := by decide +kernel
theorem ax_d308_1334 : decode code 1334 = .ok (.iaload, 1) := by decide +kernel
theorem ax_d308_1335 : decode code 1335 = .ok (.invokevirtual 182, 3) := by decide +kernel
theorem ax_d308_1338 : decode code 1338 = .ok (.aload_n 2, 1) := by decide +kernel
theorem ax_d308_1339 : decode code 1339 = .ok (.aload_n 0, 1) := by decide +kernel
theorem ax_d308_1340 : decode code 1340 = .ok (.iload_n 3, 1) := by decide +kernel
theorem ax_d308_1341 : decode code 1341 = .ok (.iconst 1, 1) := by decide +kernel
theorem ax_d308_1342 : decode code 1342 = .ok (.iadd, 1) := by decide +kernel
theorem ax_d308_1343 : decode code 1343 = .ok (.iaload, 1) := by decide +kernel
theorem ax_d308_1344 : decode code 1344 = .ok (.aload_n 0, 1) := by decide +kernel
theorem ax_d308_1345 : decode code 1345 = .ok (.iload_n 3, 1) := by decide +kernel
theorem ax_d308_1346 : decode code 1346 = .ok (.iconst 2, 1) := by decide +kernel
theorem ax_d308_1347 : decode code 1347 = .ok (.iadd, 1) := by decide +kernel
theorem ax_d308_1348 : decode code 1348 = .ok (.iaload, 1) := by decide +kernel
theorem ax_d308_1349 : decode code 1349 = .ok (.invokevirtual 185, 3) := by decide +kernel
theorem ax_d308_1352 : decode code 1352 = .ok (.if_icmp .eq 90, 3) := by decide +kernel
theorem ax_d308_1355 : decode code 1355 = .ok (.iconst 0, 1) := by decide +kernel
theorem ax_d308_1356 : decode code 1356 = .ok (.ireturn, 1) := by decide +kernel
theorem ax_d308_1357 : decode code 1357 = .ok (.aload_n 1, 1) := by decide +kernel
theorem ax_d308_1358 : decode code 1358 = .ok (.invokevirtual 186, 3) := by decide +kernel
theorem ax_d308_1361 : decode code 1361 = .ok (.aload_n 2, 1) := by decide +kernel
theorem ax_d308_1362 : decode code 1362 = .ok (.invokevirtual 189, 3) := by decide +kernel
theorem ax_d308_1365 : decode code 1365 = .ok (.if_icmp .eq 77, 3) := by decide +kernel
theorem ax_d308_1368 : decode code 1368 = .ok (.iconst 0, 1) := by decide +kernel
theorem ax_d308_1369 : decode code 1369 = .ok (.ireturn, 1) := by decide +kernel
theorem ax_d308_1370 : decode code 1370 = .ok (.aload_n 1, 1) := by decide +kernel
theorem ax_d308_1371 : decode code 1371 = .ok (.aload_n 0, 1) := by decide +kernel
theorem ax_d308_1372 : decode code 1372 = .ok (.iload_n 3, 1) := by decide +kernel
theorem ax_d308_1373 : decode code 1373 = .ok (.iconst 1, 1) := by decide +kernel
theorem ax_d308_1374 : decode code 1374 = .ok (.iadd, 1) := by decide +kernel
theorem ax_d308_1375 : decode code 1375 = .ok (.iaload, 1) := by decide +kernel
theorem ax_d308_1376 : decode code 1376 = .ok (.invokevirtual 190, 3) := by decide +kernel
theorem ax_d308_1379 : decode code 1379 = .ok (.aload_n 2, 1) := by decide +kernel
theorem ax_d308_1380 : decode code 1380 = .ok (.aload_n 0, 1) := by decide +kernel
theorem ax_d308_1381 : decode code 1381 = .ok (.iload_n 3, 1) := by decide +kernel
theorem ax_d308_1382 : decode code 1382 = .ok (.iconst 1, 1) := by decide +kernel
theorem ax_d308_1383 : decode code 1383 = .ok (.iadd, 1) := by decide +kernel
theorem ax_d308_1384 : decode code 1384 = .ok (.iaload, 1) := by decide +kernel
theorem ax_d308_1385 : decode code 1385 = .ok (.invokevirtual 193, 3) := by decide +kernel
theorem ax_d308_1388 : decode code 1388 = .ok (.if_icmp .eq 54, 3) := by decide +kernel
theorem ax_d308_1391 : decode code 1391 = .ok (.iconst 0, 1) := by decide +kernel
theorem ax_d308_1392 : decode code 1392 = .ok (.ireturn, 1) := by decide +kernel
theorem ax_d308_1393 : decode code 1393 = .ok (.aload_n 1, 1) := by decide +kernel
theorem ax_d308_1394 : decode code 1394 = .ok (.invokevirtual 194, 3) := by decide +kernel
theorem ax_d308_1397 : decode code 1397 = .ok (.aload_n 2, 1) := by decide +kernel
theorem ax_d308_1398 : decode code 1398 = .ok (.invokevirtual 197, 3) := by decide +kernel
theorem ax_d308_1401 : decode code 1401 = .ok (.if_icmp .eq 41, 3) := by decide +kernel
theorem ax_d308_1404 : decode code 1404 = .ok (.iconst 0, 1) := by decide +kernel
theorem ax_d308_1405 : decode code 1405 = .ok (.ireturn, 1) := by decide +kernel
theorem ax_d308_1406 : decode code 1406 = .ok (.aload_n 1, 1) := by decide +kernel
theorem ax_d308_1407 : decode code 1407 = .ok (.invokevirtual 198, 3) := by decide +kernel
theorem ax_d308_1410 : decode code 1410 = .ok (.aload_n 2, 1) := by decide +kernel
theorem ax_d308_1411 : decode code 1411 = .ok (.invokevirtual 201, 3) := by decide +kernel
theorem ax_d308_1414 : decode code 1414 = .ok (.if_icmp .eq 28, 3) := by decide +kernel
theorem ax_d308_1417 : decode code 1417 = .ok (.iconst 0, 1) := by decide +kernel
theorem ax_d308_1418 : decode code 1418 = .ok (.ireturn, 1) := by decide +kernel
theorem ax_d308_1419 : decode code 1419 = .ok (.aload_n 1, 1) := by decide +kernel
theorem ax_d308_1420 : decode code 1420 = .ok (.aload_n 0, 1) := by decide +kernel
theorem ax_d308_1421 : decode code 1421 = .ok (.iload_n 3, 1) := by decide +kernel
theorem ax_d308_1422 : decode code 1422 = .ok (.iconst 1, 1) := by decide +kernel
theorem ax_d308_1423 : decode code 1423 = .ok (.iadd, 1) := by decide +kernel
theorem ax_d308_1424 : decode code 1424 = .ok (.iaload, 1) := by decide +kernel
theorem ax_d308_1425 : decode code 1425 = .ok (.invokevirtual 202, 3) := by decide +kernel
theorem ax_d308_1428 : decode code 1428 = .ok (.aload_n 2, 1) := by decide +kernel
theorem ax_d308_1429 : decode code 1429 = .ok (.aload_n 0, 1) := by decide +kernel
theorem ax_d308_1430 : decode code 1430 = .ok (.iload_n 3, 1) := by decide +kernel
theorem ax_d308_1431 : decode code 1431 = .ok (.iconst 1, 1) := by decide +kernel
theorem ax_d308_1432 : decode code 1432 = .ok (.iadd, 1) := by decide +kernel
theorem ax_d308_1433 : decode code 1433 = .ok (.iaload, 1) := by decide +kernel
theorem ax_d308_1434 : decode code 1434 = .ok (.invokevirtual 205, 3) := by decide +kernel
theorem ax_d308_1437 : decode code 1437 = .ok (.if_icmp .eq 5, 3) := by decide +kernel
theorem ax_d308_1440 : decode code 1440 = .ok (.iconst 0, 1) := by decide +kernel
theorem ax_d308_1441 : decode code 1441 = .ok (.ireturn, 1) := by decide +kernel
theorem ax_d308_1442 : decode code 1442 = .ok (.iinc 3 6, 3) := by decide +kernel
theorem ax_d308_1445 : decode code 1445 = .ok (.goto (-1427), 3) := by decide +kernel
theorem ax_d308_1448 : decode code 1448 = .ok (.iconst 1, 1) := by decide +kernel
theorem ax_d308_1449 : decode code 1449 = .ok (.ireturn, 1) := by decide +kernel
theorem ax_d308 (pc : Nat) : ax_Gd code 4 pc (ax_c308 pc) := ax_n0 (ax_nd (ax_nd (ax_nd (ax_nd (ax_nd (ax_nd (ax_nd (ax_nd (ax_nd (ax_lf ax_d308_0 rfl) (ax_nd (ax_lf ax_d308_3 rfl) (ax_lf ax_d308_4 rfl))) (ax_nd (ax_nd (ax_lf ax_d308_7 rfl) (ax_lf ax_d308_8 rfl)) (ax_nd (ax_lf ax_d308_11 rfl) (ax_lf ax_d308_12 rfl)))) (ax_nd (ax_nd (ax_nd (ax_lf ax_d308_15 rfl) (ax_lf ax_d308_16 rfl)) (ax_nd (ax_lf ax_d308_17 rfl) (ax_lf ax_d308_18 rfl))) (ax_nd (ax_nd (ax_lf ax_d308_19 rfl) (ax_lf ax_d308_20 rfl)) (ax_nd (ax_lf ax_d308_21 rfl) (ax_lf ax_d308_23 rfl))))) (ax_nd (ax_nd (ax_nd (ax_lf ax_d308_24 rfl) (ax_nd (ax_lf ax_d308_27 rfl) (ax_lf ax_d308_28 rfl))) (ax_nd (ax_nd (ax_lf ax_d308_29 rfl) (ax_lf ax_d308_30 rfl)) (ax_nd (ax_lf ax_d308_32 rfl) (ax_lf ax_d308_33 rfl)))) (ax_nd (ax_nd (ax_nd (ax_lf ax_d308_232 rfl) (ax_lf ax_d308_233 rfl)) (ax_nd (ax_lf ax_d308_234 rfl) (ax_lf ax_d308_235 rfl))) (ax_nd (ax_nd (ax_lf ax_d308_236 rfl) (ax_lf ax_d308_237 rfl)) (ax_nd (ax_lf ax_d308_238 rfl) (ax_lf ax_d308_241 rfl)))))) (ax_nd (ax_nd (ax_nd (ax_nd (ax_lf ax_d308_242 rfl) (ax_nd (ax_lf ax_d308_243 rfl) (ax_lf ax_d308_244 rfl))) (ax_nd (ax_nd (ax_lf ax_d308_245 rfl) (ax_lf ax_d308_246 rfl)) (ax_nd (ax_lf ax_d308_247 rfl) (ax_lf ax_d308_250 rfl)))) (ax_nd (ax_nd (ax_nd (ax_lf ax_d308_253 rfl) (ax_lf ax_d308_254 rfl)) (ax_nd (ax_lf ax_d308_255 rfl) (ax_lf ax_d308_256 rfl))) (ax_nd (ax_nd (ax_lf ax_d308_257 rfl) (ax_lf ax_d308_258 rfl)) (ax_nd (ax_lf ax_d308_259 rfl) (ax_lf ax_d308_260 rfl))))) (ax_nd (ax_nd (ax_nd (ax_lf ax_d308_261 rfl) (ax_nd (ax_lf ax_d308_262 rfl) (ax_lf ax_d308_263 rfl))) (ax_nd (ax_nd (ax_lf ax_d308_264 rfl) (ax_lf ax_d308_265 rfl)) (ax_nd (ax_lf ax_d308_266 rfl) (ax_lf ax_d308_267 rfl)))) (ax_nd (ax_nd (ax_nd (ax_lf ax_d308_268 rfl) (ax_lf ax_d308_269 rfl)) (ax_nd (ax_lf ax_d308_270 rfl) (ax_lf ax_d308_271 rfl))) (ax_nd (ax_nd (ax_lf ax_d308_272 rfl) (ax_lf ax_d308_273 rfl)) (ax_nd (ax_lf ax_d308_274 rfl) (ax_lf ax_d308_275 rfl))))))) (ax_nd (ax_nd (ax_nd (ax_nd (ax_nd (ax_lf ax_d308_276 rfl) (ax_nd (ax_lf ax_d308_277 rfl) (ax_lf ax_d308_278 rfl))) (ax_nd (ax_nd (ax_lf ax_d308_279 rfl) (ax_lf ax_d308_280 rfl)) (ax_nd (ax_lf ax_d308_281 rfl) (ax_lf ax_d308_284 rfl)))) (ax_nd (ax_nd (ax_nd (ax_lf ax_d308_285 rfl) (ax_lf ax_d308_286 rfl)) (ax_nd (ax_lf ax_d308_287 rfl) (ax_lf ax_d308_288 rfl))) (ax_nd (ax_nd (ax_lf ax_d308_289 rfl) (ax_lf ax_d308_290 rfl)) (ax_nd (ax_lf ax_d308_291 rfl) (ax_lf ax_d308_292 rfl))))) (ax_nd (ax_nd (ax_nd (ax_lf ax_d308_293 rfl) (ax_nd (ax_lf ax_d308_294 rfl) (ax_lf ax_d308_295 rfl))) (ax_nd (ax_nd (ax_lf ax_d308_296 rfl) (ax_lf ax_d308_297 rfl)) (ax_nd (ax_lf ax_d308_298 rfl) (ax_lf ax_d308_299 rfl)))) (ax_nd (ax_nd (ax_nd (ax_lf ax_d308_300 rfl) (ax_lf ax_d308_301 rfl)) (ax_nd (ax_lf ax_d308_302 rfl) (ax_lf ax_d308_303 rfl))) (ax_nd (ax_nd (ax_lf ax_d308_304 rfl) (ax_lf ax_d308_305 rfl)) (ax_nd (ax_lf ax_d308_306 rfl) (ax_lf ax_d308_307 rfl)))))) (ax_nd (ax_nd (ax_nd (ax_nd (ax_lf ax_d308_308 rfl) (ax_nd (ax_lf ax_d308_309 rfl) (ax_lf ax_d308_310 rfl))) (ax_nd (ax_nd (ax_lf ax_d308_313 rfl) (ax_lf ax_d308_316 rfl)) (ax_nd (ax_lf ax_d308_317 rfl) (ax_lf ax_d308_318 rfl)))) (ax_nd (ax_nd (ax_nd (ax_lf ax_d308_319 rfl) (ax_lf ax_d308_320 rfl)) (ax_nd (ax_lf ax_d308_321 rfl) (ax_lf ax_d308_322 rfl))) (ax_nd (ax_nd (ax_lf ax_d308_323 rfl) (ax_lf ax_d308_324 rfl)) (ax_nd (ax_lf ax_d308_327 rfl) (ax_lf ax_d308_328 rfl))))) (ax_nd (ax_nd (ax_nd (ax_lf ax_d308_329 rfl) (ax_nd (ax_lf ax_d308_330 rfl) (ax_lf ax_d308_331 rfl))) (ax_nd (ax_nd (ax_lf ax_d308_332 rfl) (ax_lf ax_d308_333 rfl)) (ax_nd (ax_lf ax_d308_336 rfl) (ax_lf ax_d308_339 rfl)))) (ax_nd (ax_nd (ax_nd (ax_lf ax_d308_340 rfl) (ax_lf ax_d308_341 rfl)) (ax_nd (ax_lf ax_d308_342 rfl) (ax_lf ax_d308_345 rfl))) (ax_nd (ax_nd (ax_lf ax_d308_346 rfl) (ax_lf ax_d308_349 rfl)) (ax_nd (ax_lf ax_d308_352 rfl) (ax_lf ax_d308_353 rfl)))))))) (ax_nd (ax_nd (ax_nd (ax_nd (ax_nd (ax_nd (ax_lf ax_d308_354 rfl) (ax_nd (ax_lf ax_d308_355 rfl) (ax_lf ax_d308_356 rfl))) (ax_nd (ax_nd (ax_lf ax_d308_357 rfl) (ax_lf ax_d308_358 rfl)) (ax_nd (ax_lf ax_d308_359 rfl) (ax_lf ax_d308_360 rfl)))) (ax_nd (ax_nd (ax_nd (ax_lf ax_d308_363 rfl) (ax_lf ax_d308_364 rfl)) (ax_nd (ax_lf ax_d308_365 rfl) (ax_lf ax_d308_366 rfl))) (ax_nd (ax_nd (ax_lf ax_d308_367 rfl) (ax_lf ax_d308_368 rfl)) (ax_nd (ax_lf ax_d308_369 rfl) (ax_lf ax_d308_372 rfl))))) (ax_nd (ax_nd (ax_nd (ax_lf ax_d308_375 rfl) (ax_nd (ax_lf ax_d308_376 rfl) (ax_lf ax_d308_377 rfl))) (ax_nd (ax_nd (ax_lf ax_d308_378 rfl) (ax_lf ax_d308_379 rfl)) (ax_nd (ax_lf ax_d308_380 rfl) (ax_lf ax_d308_381 rfl)))) (ax_nd (ax_nd (ax_nd (ax_lf ax_d308_382 rfl) (ax_lf ax_d308_383 rfl)) (ax_nd (ax_lf ax_d308_386 rfl) (ax_lf ax_d308_387 rfl))) (ax_nd (ax_nd (ax_lf ax_d308_388 rfl) (ax_lf ax_d308_389 rfl)) (ax_nd (ax_lf ax_d308_390 rfl) (ax_lf ax_d308_391 rfl)))))) (ax_nd (ax_nd (ax_nd (ax_nd (ax_lf ax_d308_392 rfl) (ax_nd (ax_lf ax_d308_395 rfl) (ax_lf ax_d308_398 rfl))) (ax_nd (ax_nd (ax_lf ax_d308_399 rfl) (ax_lf ax_d308_400 rfl)) (ax_nd (ax_lf ax_d308_401 rfl) (ax_lf ax_d308_402 rfl)))) (ax_nd (ax_nd (ax_nd (ax_lf ax_d308_403 rfl) (ax_lf ax_d308_404 rfl)) (ax_nd (ax_lf ax_d308_405 rfl) (ax_lf ax_d308_406 rfl))) (ax_nd (ax_nd (ax_lf ax_d308_407 rfl) (ax_lf ax_d308_408 rfl)) (ax_nd (ax_lf ax_d308_409 rfl) (ax_lf ax_d308_410 rfl))))) (ax_nd (ax_nd (ax_nd (ax_lf ax_d308_411 rfl) (ax_nd (ax_lf ax_d308_414 rfl) (ax_lf ax_d308_415 rfl))) (ax_nd (ax_nd (ax_lf ax_d308_416 rfl) (ax_lf ax_d308_417 rfl)) (ax_nd (ax_lf ax_d308_418 rfl) (ax_lf ax_d308_419 rfl)))) (ax_nd (ax_nd (ax_nd (ax_lf ax_d308_420 rfl) (ax_lf ax_d308_421 rfl)) (ax_nd (ax_lf ax_d308_422 rfl) (ax_lf ax_d308_423 rfl))) (ax_nd (ax_nd (ax_lf ax_d308_424 rfl) (ax_lf ax_d308_425 rfl)) (ax_nd (ax_lf ax_d308_428 rfl) (ax_lf ax_d308_431 rfl))))))) (ax_nd (ax_nd (ax_nd (ax_nd (ax_nd (ax_lf ax_d308_432 rfl) (ax_nd (ax_lf ax_d308_433 rfl) (ax_lf ax_d308_434 rfl))) (ax_nd (ax_nd (ax_lf ax_d308_435 rfl) (ax_lf ax_d308_436 rfl)) (ax_nd (ax_lf ax_d308_437 rfl) (ax_lf ax_d308_438 rfl)))) (ax_nd (ax_nd (ax_nd (ax_lf ax_d308_439 rfl) (ax_lf ax_d308_440 rfl)) (ax_nd (ax_lf ax_d308_441 rfl) (ax_lf ax_d308_442 rfl))) (ax_nd (ax_nd (ax_lf ax_d308_443 rfl) (ax_lf ax_d308_444 rfl)) (ax_nd (ax_lf ax_d308_445 rfl) (ax_lf ax_d308_446 rfl))))) (ax_nd (ax_nd (ax_nd (ax_lf ax_d308_447 rfl) (ax_nd (ax_lf ax_d308_448 rfl) (ax_lf ax_d308_449 rfl))) (ax_nd (ax_nd (ax_lf ax_d308_452 rfl) (ax_lf ax_d308_453 rfl)) (ax_nd (ax_lf ax_d308_454 rfl) (ax_lf ax_d308_455 rfl)))) (ax_nd (ax_nd (ax_nd (ax_lf ax_d308_456 rfl) (ax_lf ax_d308_457 rfl)) (ax_nd (ax_lf ax_d308_458 rfl) (ax_lf ax_d308_459 rfl))) (ax_nd (ax_nd (ax_lf ax_d308_460 rfl) (ax_lf ax_d308_461 rfl)) (ax_nd (ax_lf ax_d308_462 rfl) (ax_lf ax_d308_463 rfl)))))) (ax_nd (ax_nd (ax_nd (ax_nd (ax_lf ax_d308_464 rfl) (ax_nd (ax_lf ax_d308_465 rfl) (ax_lf ax_d308_466 rfl))) (ax_nd (ax_nd (ax_lf ax_d308_467 rfl) (ax_lf ax_d308_468 rfl)) (ax_nd (ax_lf ax_d308_471 rfl) (ax_lf ax_d308_474 rfl)))) (ax_nd (ax_nd (ax_nd (ax_lf ax_d308_475 rfl) (ax_lf ax_d308_476 rfl)) (ax_nd (ax_lf ax_d308_477 rfl) (ax_lf ax_d308_478 rfl))) (ax_nd (ax_nd (ax_lf ax_d308_479 rfl) (ax_lf ax_d308_480 rfl)) (ax_nd (ax_lf ax_d308_481 rfl) (ax_lf ax_d308_482 rfl))))) (ax_nd (ax_nd (ax_nd (ax_lf ax_d308_483 rfl) (ax_nd (ax_lf ax_d308_484 rfl) (ax_lf ax_d308_485 rfl))) (ax_nd (ax_nd (ax_lf ax_d308_486 rfl) (ax_lf ax_d308_487 rfl)) (ax_nd (ax_lf ax_d308_488 rfl) (ax_lf ax_d308_489 rfl)))) (ax_nd (ax_nd (ax_nd (ax_lf ax_d308_490 rfl) (ax_lf ax_d308_491 rfl)) (ax_nd (ax_lf ax_d308_492 rfl) (ax_lf ax_d308_493 rfl))) (ax_nd (ax_nd (ax_lf ax_d308_494 rfl) (ax_lf ax_d308_495 rfl)) (ax_nd (ax_lf ax_d308_496 rfl) (ax_lf ax_d308_497 rfl))))))))) (ax_nd (ax_nd (ax_nd (ax_nd (ax_nd (ax_nd (ax_nd (ax_lf ax_d308_500 rfl) (ax_nd (ax_lf ax_d308_501 rfl) (ax_lf ax_d308_502 rfl))) (ax_nd (ax_nd (ax_lf ax_d308_503 rfl) (ax_lf ax_d308_504 rfl)) (ax_nd (ax_lf ax_d308_505 rfl) (ax_lf ax_d308_506 rfl)))) (ax_nd (ax_nd (ax_nd (ax_lf ax_d308_507 rfl) (ax_lf ax_d308_508 rfl)) (ax_nd (ax_lf ax_d308_509 rfl) (ax_lf ax_d308_510 rfl))) (ax_nd (ax_nd (ax_lf ax_d308_511 rfl) (ax_lf ax_d308_512 rfl)) (ax_nd (ax_lf ax_d308_513 rfl) (ax_lf ax_d308_514 rfl))))) (ax_nd (ax_nd (ax_nd (ax_lf ax_d308_515 rfl) (ax_nd (ax_lf ax_d308_516 rfl) (ax_lf ax_d308_517 rfl))) (ax_nd (ax_nd (ax_lf ax_d308_518 rfl) (ax_lf ax_d308_519 rfl)) (ax_nd (ax_lf ax_d308_520 rfl) (ax_lf ax_d308_521 rfl)))) (ax_nd (ax_nd (ax_nd (ax_lf ax_d308_524 rfl) (ax_lf ax_d308_527 rfl)) (ax_nd (ax_lf ax_d308_528 rfl) (ax_lf ax_d308_529 rfl))) (ax_nd (ax_nd (ax_lf ax_d308_530 rfl) (ax_lf ax_d308_531 rfl)) (ax_nd (ax_lf ax_d308_532 rfl) (ax_lf ax_d308_533 rfl)))))) (ax_nd (ax_nd (ax_nd (ax_nd (ax_lf ax_d308_534 rfl) (ax_nd (ax_lf ax_d308_535 rfl) (ax_lf ax_d308_538 rfl))) (ax_nd (ax_nd (ax_lf ax_d308_539 rfl) (ax_lf ax_d308_540 rfl)) (ax_nd (ax_lf ax_d308_541 rfl) (ax_lf ax_d308_542 rfl)))) (ax_nd (ax_nd (ax_nd (ax_lf ax_d308_543 rfl) (ax_lf ax_d308_544 rfl)) (ax_nd (ax_lf ax_d308_547 rfl) (ax_lf ax_d308_550 rfl))) (ax_nd (ax_nd (ax_lf ax_d308_551 rfl) (ax_lf ax_d308_552 rfl)) (ax_nd (ax_lf ax_d308_553 rfl) (ax_lf ax_d308_554 rfl))))) (ax_nd (ax_nd (ax_nd (ax_lf ax_d308_555 rfl) (ax_nd (ax_lf ax_d308_556 rfl) (ax_lf ax_d308_557 rfl))) (ax_nd (ax_nd (ax_lf ax_d308_558 rfl) (ax_lf ax_d308_561 rfl)) (ax_nd (ax_lf ax_d308_562 rfl) (ax_lf ax_d308_563 rfl)))) (ax_nd (ax_nd (ax_nd (ax_lf ax_d308_564 rfl) (ax_lf ax_d308_565 rfl)) (ax_nd (ax_lf ax_d308_566 rfl) (ax_lf ax_d308_567 rfl))) (ax_nd (ax_nd (ax_lf ax_d308_570 rfl) (ax_lf ax_d308_573 rfl)) (ax_nd (ax_lf ax_d308_574 rfl) (ax_lf ax_d308_575 rfl))))))) (ax_nd (ax_nd (ax_nd (ax_nd (ax_nd (ax_lf ax_d308_576 rfl) (ax_nd (ax_lf ax_d308_577 rfl) (ax_lf ax_d308_578 rfl))) (ax_nd (ax_nd (ax_lf ax_d308_579 rfl) (ax_lf ax_d308_580 rfl)) (ax_nd (ax_lf ax_d308_581 rfl) (ax_lf ax_d308_584 rfl)))) (ax_nd (ax_nd (ax_nd (ax_lf ax_d308_585 rfl) (ax_lf ax_d308_586 rfl)) (ax_nd (ax_lf ax_d308_587 rfl) (ax_lf ax_d308_588 rfl))) (ax_nd (ax_nd (ax_lf ax_d308_589 rfl) (ax_lf ax_d308_590 rfl)) (ax_nd (ax_lf ax_d308_593 rfl) (ax_lf ax_d308_596 rfl))))) (ax_nd (ax_nd (ax_nd (ax_lf ax_d308_597 rfl) (ax_nd (ax_lf ax_d308_598 rfl) (ax_lf ax_d308_599 rfl))) (ax_nd (ax_nd (ax_lf ax_d308_600 rfl) (ax_lf ax_d308_601 rfl)) (ax_nd (ax_lf ax_d308_602 rfl) (ax_lf ax_d308_603 rfl)))) (ax_nd (ax_nd (ax_nd (ax_lf ax_d308_604 rfl) (ax_lf ax_d308_607 rfl)) (ax_nd (ax_lf ax_d308_608 rfl) (ax_lf ax_d308_609 rfl))) (ax_nd (ax_nd (ax_lf ax_d308_610 rfl) (ax_lf ax_d308_611 rfl)) (ax_nd (ax_lf ax_d308_612 rfl) (ax_lf ax_d308_613 rfl)))))) (ax_nd (ax_nd (ax_nd (ax_nd (ax_lf ax_d308_616 rfl) (ax_nd (ax_lf ax_d308_619 rfl) (ax_lf ax_d308_620 rfl))) (ax_nd (ax_nd (ax_lf ax_d308_621 rfl) (ax_lf ax_d308_622 rfl)) (ax_nd (ax_lf ax_d308_623 rfl) (ax_lf ax_d308_624 rfl)))) (ax_nd (ax_nd (ax_nd (ax_lf ax_d308_625 rfl) (ax_lf ax_d308_626 rfl)) (ax_nd (ax_lf ax_d308_627 rfl) (ax_lf ax_d308_630 rfl))) (ax_nd (ax_nd (ax_lf ax_d308_631 rfl) (ax_lf ax_d308_632 rfl)) (ax_nd (ax_lf ax_d308_633 rfl) (ax_lf ax_d308_634 rfl))))) (ax_nd (ax_nd (ax_nd (ax_lf ax_d308_635 rfl) (ax_nd (ax_lf ax_d308_636 rfl) (ax_lf ax_d308_639 rfl))) (ax_nd (ax_nd (ax_lf ax_d308_642 rfl) (ax_lf ax_d308_643 rfl)) (ax_nd (ax_lf ax_d308_644 rfl) (ax_lf ax_d308_645 rfl)))) (ax_nd (ax_nd (ax_nd (ax_lf ax_d308_646 rfl) (ax_lf ax_d308_647 rfl)) (ax_nd (ax_lf ax_d308_648 rfl) (ax_lf ax_d308_649 rfl))) (ax_nd (ax_nd (ax_lf ax_d308_650 rfl) (ax_lf ax_d308_651 rfl)) (ax_nd (ax_lf ax_d308_652 rfl) (ax_lf ax_d308_653 rfl)))))))) (ax_nd (ax_nd (ax_nd (ax_nd (ax_nd (ax_nd (ax_lf ax_d308_654 rfl) (ax_nd (ax_lf ax_d308_655 rfl) (ax_lf ax_d308_658 rfl))) (ax_nd (ax_nd (ax_lf ax_d308_659 rfl) (ax_lf ax_d308_660 rfl)) (ax_nd (ax_lf ax_d308_661 rfl) (ax_lf ax_d308_662 rfl)))) (ax_nd (ax_nd (ax_nd (ax_lf ax_d308_663 rfl) (ax_lf ax_d308_664 rfl)) (ax_nd (ax_lf ax_d308_665 rfl) (ax_lf ax_d308_666 rfl))) (ax_nd (ax_nd (ax_lf ax_d308_667 rfl) (ax_lf ax_d308_668 rfl)) (ax_nd (ax_lf ax_d308_669 rfl) (ax_lf ax_d308_672 rfl))))) (ax_nd (ax_nd (ax_nd (ax_lf ax_d308_675 rfl) (ax_nd (ax_lf ax_d308_676 rfl) (ax_lf ax_d308_677 rfl))) (ax_nd (ax_nd (ax_lf ax_d308_678 rfl) (ax_lf ax_d308_681 rfl)) (ax_nd (ax_lf ax_d308_682 rfl) (ax_lf ax_d308_685 rfl)))) (ax_nd (ax_nd (ax_nd (ax_lf ax_d308_688 rfl) (ax_lf ax_d308_689 rfl)) (ax_nd (ax_lf ax_d308_690 rfl) (ax_lf ax_d308_691 rfl))) (ax_nd (ax_nd (ax_lf ax_d308_692 rfl) (ax_lf ax_d308_693 rfl)) (ax_nd (ax_lf ax_d308_694 rfl) (ax_lf ax_d308_695 rfl)))))) (ax_nd (ax_nd (ax_nd (ax_nd (ax_lf ax_d308_696 rfl) (ax_nd (ax_lf ax_d308_697 rfl) (ax_lf ax_d308_698 rfl))) (ax_nd (ax_nd (ax_lf ax_d308_699 rfl) (ax_lf ax_d308_700 rfl)) (ax_nd (ax_lf ax_d308_701 rfl) (ax_lf ax_d308_702 rfl)))) (ax_nd (ax_nd (ax_nd (ax_lf ax_d308_703 rfl) (ax_lf ax_d308_704 rfl)) (ax_nd (ax_lf ax_d308_705 rfl) (ax_lf ax_d308_706 rfl))) (ax_nd (ax_nd (ax_lf ax_d308_709 rfl) (ax_lf ax_d308_710 rfl)) (ax_nd (ax_lf ax_d308_711 rfl) (ax_lf ax_d308_712 rfl))))) (ax_nd (ax_nd (ax_nd (ax_lf ax_d308_713 rfl) (ax_nd (ax_lf ax_d308_714 rfl) (ax_lf ax_d308_715 rfl))) (ax_nd (ax_nd (ax_lf ax_d308_716 rfl) (ax_lf ax_d308_717 rfl)) (ax_nd (ax_lf ax_d308_718 rfl) (ax_lf ax_d308_719 rfl)))) (ax_nd (ax_nd (ax_nd (ax_lf ax_d308_720 rfl) (ax_lf ax_d308_721 rfl)) (ax_nd (ax_lf ax_d308_722 rfl) (ax_lf ax_d308_723 rfl))) (ax_nd (ax_nd (ax_lf ax_d308_724 rfl) (ax_lf ax_d308_725 rfl)) (ax_nd (ax_lf ax_d308_728 rfl) (ax_lf ax_d308_731 rfl))))))) (ax_nd (ax_nd (ax_nd (ax_nd (ax_nd (ax_lf ax_d308_732 rfl) (ax_nd (ax_lf ax_d308_733 rfl) (ax_lf ax_d308_734 rfl))) (ax_nd (ax_nd (ax_lf ax_d308_735 rfl) (ax_lf ax_d308_736 rfl)) (ax_nd (ax_lf ax_d308_737 rfl) (ax_lf ax_d308_738 rfl)))) (ax_nd (ax_nd (ax_nd (ax_lf ax_d308_739 rfl) (ax_lf ax_d308_742 rfl)) (ax_nd (ax_lf ax_d308_743 rfl) (ax_lf ax_d308_744 rfl))) (ax_nd (ax_nd (ax_lf ax_d308_745 rfl) (ax_lf ax_d308_746 rfl)) (ax_nd (ax_lf ax_d308_747 rfl) (ax_lf ax_d308_748 rfl))))) (ax_nd (ax_nd (ax_nd (ax_lf ax_d308_751 rfl) (ax_nd (ax_lf ax_d308_754 rfl) (ax_lf ax_d308_755 rfl))) (ax_nd (ax_nd (ax_lf ax_d308_756 rfl) (ax_lf ax_d308_757 rfl)) (ax_nd (ax_lf ax_d308_758 rfl) (ax_lf ax_d308_759 rfl)))) (ax_nd (ax_nd (ax_nd (ax_lf ax_d308_760 rfl) (ax_lf ax_d308_761 rfl)) (ax_nd (ax_lf ax_d308_762 rfl) (ax_lf ax_d308_763 rfl))) (ax_nd (ax_nd (ax_lf ax_d308_764 rfl) (ax_lf ax_d308_765 rfl)) (ax_nd (ax_lf ax_d308_766 rfl) (ax_lf ax_d308_767 rfl)))))) (ax_nd (ax_nd (ax_nd (ax_nd (ax_lf ax_d308_770 rfl) (ax_nd (ax_lf ax_d308_771 rfl) (ax_lf ax_d308_772 rfl))) (ax_nd (ax_nd (ax_lf ax_d308_773 rfl) (ax_lf ax_d308_774 rfl)) (ax_nd (ax_lf ax_d308_775 rfl) (ax_lf ax_d308_776 rfl)))) (ax_nd (ax_nd (ax_nd (ax_lf ax_d308_777 rfl) (ax_lf ax_d308_778 rfl)) (ax_nd (ax_lf ax_d308_779 rfl) (ax_lf ax_d308_780 rfl))) (ax_nd (ax_nd (ax_lf ax_d308_781 rfl) (ax_lf ax_d308_784 rfl)) (ax_nd (ax_lf ax_d308_787 rfl) (ax_lf ax_d308_788 rfl))))) (ax_nd (ax_nd (ax_nd (ax_lf ax_d308_789 rfl) (ax_nd (ax_lf ax_d308_790 rfl) (ax_lf ax_d308_791 rfl))) (ax_nd (ax_nd (ax_lf ax_d308_792 rfl) (ax_lf ax_d308_793 rfl)) (ax_nd (ax_lf ax_d308_794 rfl) (ax_lf ax_d308_795 rfl)))) (ax_nd (ax_nd (ax_nd (ax_lf ax_d308_798 rfl) (ax_lf ax_d308_799 rfl)) (ax_nd (ax_lf ax_d308_800 rfl) (ax_lf ax_d308_801 rfl))) (ax_nd (ax_nd (ax_lf ax_d308_802 rfl) (ax_lf ax_d308_803 rfl)) (ax_nd (ax_lf ax_d308_804 rfl) (ax_lf ax_d308_807 rfl)))))))))) (ax_nd (ax_nd (ax_nd (ax_nd (ax_nd (ax_nd (ax_nd (ax_nd (ax_lf ax_d308_810 rfl) (ax_nd (ax_lf ax_d308_811 rfl) (ax_lf ax_d308_812 rfl))) (ax_nd (ax_nd (ax_lf ax_d308_813 rfl) (ax_lf ax_d308_814 rfl)) (ax_nd (ax_lf ax_d308_815 rfl) (ax_lf ax_d308_816 rfl)))) (ax_nd (ax_nd (ax_nd (ax_lf ax_d308_817 rfl) (ax_lf ax_d308_818 rfl)) (ax_nd (ax_lf ax_d308_821 rfl) (ax_lf ax_d308_822 rfl))) (ax_nd (ax_nd (ax_lf ax_d308_823 rfl) (ax_lf ax_d308_824 rfl)) (ax_nd (ax_lf ax_d308_825 rfl) (ax_lf ax_d308_826 rfl))))) (ax_nd (ax_nd (ax_nd (ax_lf ax_d308_827 rfl) (ax_nd (ax_lf ax_d308_830 rfl) (ax_lf ax_d308_833 rfl))) (ax_nd (ax_nd (ax_lf ax_d308_834 rfl) (ax_lf ax_d308_835 rfl)) (ax_nd (ax_lf ax_d308_836 rfl) (ax_lf ax_d308_837 rfl)))) (ax_nd (ax_nd (ax_nd (ax_lf ax_d308_838 rfl) (ax_lf ax_d308_839 rfl)) (ax_nd (ax_lf ax_d308_840 rfl) (ax_lf ax_d308_841 rfl))) (ax_nd (ax_nd (ax_lf ax_d308_842 rfl) (ax_lf ax_d308_843 rfl)) (ax_nd (ax_lf ax_d308_844 rfl) (ax_lf ax_d308_845 rfl)))))) (ax_nd (ax_nd (ax_nd (ax_nd (ax_lf ax_d308_846 rfl) (ax_nd (ax_lf ax_d308_849 rfl) (ax_lf ax_d308_850 rfl))) (ax_nd (ax_nd (ax_lf ax_d308_851 rfl) (ax_lf ax_d308_852 rfl)) (ax_nd (ax_lf ax_d308_853 rfl) (ax_lf ax_d308_854 rfl)))) (ax_nd (ax_nd (ax_nd (ax_lf ax_d308_855 rfl) (ax_lf ax_d308_856 rfl)) (ax_nd (ax_lf ax_d308_857 rfl) (ax_lf ax_d308_858 rfl))) (ax_nd (ax_nd (ax_lf ax_d308_859 rfl) (ax_lf ax_d308_860 rfl)) (ax_nd (ax_lf ax_d308_863 rfl) (ax_lf ax_d308_866 rfl))))) (ax_nd (ax_nd (ax_nd (ax_lf ax_d308_867 rfl) (ax_nd (ax_lf ax_d308_868 rfl) (ax_lf ax_d308_869 rfl))) (ax_nd (ax_nd (ax_lf ax_d308_870 rfl) (ax_lf ax_d308_871 rfl)) (ax_nd (ax_lf ax_d308_872 rfl) (ax_lf ax_d308_873 rfl)))) (ax_nd (ax_nd (ax_nd (ax_lf ax_d308_874 rfl) (ax_lf ax_d308_875 rfl)) (ax_nd (ax_lf ax_d308_876 rfl) (ax_lf ax_d308_877 rfl))) (ax_nd (ax_nd (ax_lf ax_d308_878 rfl) (ax_lf ax_d308_879 rfl)) (ax_nd (ax_lf ax_d308_882 rfl) (ax_lf ax_d308_883 rfl))))))) (ax_nd (ax_nd (ax_nd (ax_nd (ax_nd (ax_lf ax_d308_884 rfl) (ax_nd (ax_lf ax_d308_885 rfl) (ax_lf ax_d308_886 rfl))) (ax_nd (ax_nd (ax_lf ax_d308_887 rfl) (ax_lf ax_d308_888 rfl)) (ax_nd (ax_lf ax_d308_889 rfl) (ax_lf ax_d308_890 rfl)))) (ax_nd (ax_nd (ax_nd (ax_lf ax_d308_891 rfl) (ax_lf ax_d308_892 rfl)) (ax_nd (ax_lf ax_d308_893 rfl) (ax_lf ax_d308_896 rfl))) (ax_nd (ax_nd (ax_lf ax_d308_899 rfl) (ax_lf ax_d308_900 rfl)) (ax_nd (ax_lf ax_d308_901 rfl) (ax_lf ax_d308_902 rfl))))) (ax_nd (ax_nd (ax_nd (ax_lf ax_d308_903 rfl) (ax_nd (ax_lf ax_d308_904 rfl) (ax_lf ax_d308_905 rfl))) (ax_nd (ax_nd (ax_lf ax_d308_906 rfl) (ax_lf ax_d308_907 rfl)) (ax_nd (ax_lf ax_d308_908 rfl) (ax_lf ax_d308_909 rfl)))) (ax_nd (ax_nd (ax_nd (ax_lf ax_d308_910 rfl) (ax_lf ax_d308_911 rfl)) (ax_nd (ax_lf ax_d308_912 rfl) (ax_lf ax_d308_913 rfl))) (ax_nd (ax_nd (ax_lf ax_d308_914 rfl) (ax_lf ax_d308_915 rfl)) (ax_nd (ax_lf ax_d308_916 rfl) (ax_lf ax_d308_917 rfl)))))) (ax_nd (ax_nd (ax_nd (ax_nd (ax_lf ax_d308_920 rfl) (ax_nd (ax_lf ax_d308_921 rfl) (ax_lf ax_d308_922 rfl))) (ax_nd (ax_nd (ax_lf ax_d308_923 rfl) (ax_lf ax_d308_924 rfl)) (ax_nd (ax_lf ax_d308_925 rfl) (ax_lf ax_d308_926 rfl)))) (ax_nd (ax_nd (ax_nd (ax_lf ax_d308_927 rfl) (ax_lf ax_d308_928 rfl)) (ax_nd (ax_lf ax_d308_929 rfl) (ax_lf ax_d308_930 rfl))) (ax_nd (ax_nd (ax_lf ax_d308_931 rfl) (ax_lf ax_d308_932 rfl)) (ax_nd (ax_lf ax_d308_933 rfl) (ax_lf ax_d308_934 rfl))))) (ax_nd (ax_nd (ax_nd (ax_lf ax_d308_935 rfl) (ax_nd (ax_lf ax_d308_936 rfl) (ax_lf ax_d308_939 rfl))) (ax_nd (ax_nd (ax_lf ax_d308_942 rfl) (ax_lf ax_d308_943 rfl)) (ax_nd (ax_lf ax_d308_944 rfl) (ax_lf ax_d308_945 rfl)))) (ax_nd (ax_nd (ax_nd (ax_lf ax_d308_946 rfl) (ax_lf ax_d308_947 rfl)) (ax_nd (ax_lf ax_d308_948 rfl) (ax_lf ax_d308_949 rfl))) (ax_nd (ax_nd (ax_lf ax_d308_950 rfl) (ax_lf ax_d308_953 rfl)) (ax_nd (ax_lf ax_d308_954 rfl) (ax_lf ax_d308_955 rfl)))))))) (ax_nd (ax_nd (ax_nd (ax_nd (ax_nd (ax_nd (ax_lf ax_d308_956 rfl) (ax_nd (ax_lf ax_d308_957 rfl) (ax_lf ax_d308_958 rfl))) (ax_nd (ax_nd (ax_lf ax_d308_959 rfl) (ax_lf ax_d308_962 rfl)) (ax_nd (ax_lf ax_d308_965 rfl) (ax_lf ax_d308_966 rfl)))) (ax_nd (ax_nd (ax_nd (ax_lf ax_d308_967 rfl) (ax_lf ax_d308_968 rfl)) (ax_nd (ax_lf ax_d308_969 rfl) (ax_lf ax_d308_970 rfl))) (ax_nd (ax_nd (ax_lf ax_d308_971 rfl) (ax_lf ax_d308_972 rfl)) (ax_nd (ax_lf ax_d308_973 rfl) (ax_lf ax_d308_976 rfl))))) (ax_nd (ax_nd (ax_nd (ax_lf ax_d308_977 rfl) (ax_nd (ax_lf ax_d308_978 rfl) (ax_lf ax_d308_979 rfl))) (ax_nd (ax_nd (ax_lf ax_d308_980 rfl) (ax_lf ax_d308_981 rfl)) (ax_nd (ax_lf ax_d308_982 rfl) (ax_lf ax_d308_985 rfl)))) (ax_nd (ax_nd (ax_nd (ax_lf ax_d308_988 rfl) (ax_lf ax_d308_989 rfl)) (ax_nd (ax_lf ax_d308_990 rfl) (ax_lf ax_d308_991 rfl))) (ax_nd (ax_nd (ax_lf ax_d308_992 rfl) (ax_lf ax_d308_993 rfl)) (ax_nd (ax_lf ax_d308_994 rfl) (ax_lf ax_d308_995 rfl)))))) (ax_nd (ax_nd (ax_nd (ax_nd (ax_lf ax_d308_996 rfl) (ax_nd (ax_lf ax_d308_999 rfl) (ax_lf ax_d308_1000 rfl))) (ax_nd (ax_nd (ax_lf ax_d308_1001 rfl) (ax_lf ax_d308_1002 rfl)) (ax_nd (ax_lf ax_d308_1003 rfl) (ax_lf ax_d308_1004 rfl)))) (ax_nd (ax_nd (ax_nd (ax_lf ax_d308_1005 rfl) (ax_lf ax_d308_1008 rfl)) (ax_nd (ax_lf ax_d308_1011 rfl) (ax_lf ax_d308_1012 rfl))) (ax_nd (ax_nd (ax_lf ax_d308_1013 rfl) (ax_lf ax_d308_1014 rfl)) (ax_nd (ax_lf ax_d308_1015 rfl) (ax_lf ax_d308_1016 rfl))))) (ax_nd (ax_nd (ax_nd (ax_lf ax_d308_1017 rfl) (ax_nd (ax_lf ax_d308_1018 rfl) (ax_lf ax_d308_1019 rfl))) (ax_nd (ax_nd (ax_lf ax_d308_1022 rfl) (ax_lf ax_d308_1023 rfl)) (ax_nd (ax_lf ax_d308_1024 rfl) (ax_lf ax_d308_1025 rfl)))) (ax_nd (ax_nd (ax_nd (ax_lf ax_d308_1026 rfl) (ax_lf ax_d308_1027 rfl)) (ax_nd (ax_lf ax_d308_1028 rfl) (ax_lf ax_d308_1031 rfl))) (ax_nd (ax_nd (ax_lf ax_d308_1034 rfl) (ax_lf ax_d308_1035 rfl)) (ax_nd (ax_lf ax_d308_1036 rfl) (ax_lf ax_d308_1037 rfl))))))) (ax_nd (ax_nd (ax_nd (ax_nd (ax_nd (ax_lf ax_d308_1038 rfl) (ax_nd (ax_lf ax_d308_1039 rfl) (ax_lf ax_d308_1040 rfl))) (ax_nd (ax_nd (ax_lf ax_d308_1041 rfl) (ax_lf ax_d308_1042 rfl)) (ax_nd (ax_lf ax_d308_1043 rfl) (ax_lf ax_d308_1044 rfl)))) (ax_nd (ax_nd (ax_nd (ax_lf ax_d308_1045 rfl) (ax_lf ax_d308_1046 rfl)) (ax_nd (ax_lf ax_d308_1047 rfl) (ax_lf ax_d308_1048 rfl))) (ax_nd (ax_nd (ax_lf ax_d308_1049 rfl) (ax_lf ax_d308_1050 rfl)) (ax_nd (ax_lf ax_d308_1051 rfl) (ax_lf ax_d308_1052 rfl))))) (ax_nd (ax_nd (ax_nd (ax_lf ax_d308_1055 rfl) (ax_nd (ax_lf ax_d308_1056 rfl) (ax_lf ax_d308_1057 rfl))) (ax_nd (ax_nd (ax_lf ax_d308_1058 rfl) (ax_lf ax_d308_1059 rfl)) (ax_nd (ax_lf ax_d308_1060 rfl) (ax_lf ax_d308_1061 rfl)))) (ax_nd (ax_nd (ax_nd (ax_lf ax_d308_1062 rfl) (ax_lf ax_d308_1063 rfl)) (ax_nd (ax_lf ax_d308_1064 rfl) (ax_lf ax_d308_1065 rfl))) (ax_nd (ax_nd (ax_lf ax_d308_1066 rfl) (ax_lf ax_d308_1067 rfl)) (ax_nd (ax_lf ax_d308_1068 rfl) (ax_lf ax_d308_1069 rfl)))))) (ax_nd (ax_nd (ax_nd (ax_nd (ax_lf ax_d308_1070 rfl) (ax_nd (ax_lf ax_d308_1071 rfl) (ax_lf ax_d308_1074 rfl))) (ax_nd (ax_nd (ax_lf ax_d308_1077 rfl) (ax_lf ax_d308_1078 rfl)) (ax_nd (ax_lf ax_d308_1079 rfl) (ax_lf ax_d308_1080 rfl)))) (ax_nd (ax_nd (ax_nd (ax_lf ax_d308_1081 rfl) (ax_lf ax_d308_1082 rfl)) (ax_nd (ax_lf ax_d308_1083 rfl) (ax_lf ax_d308_1084 rfl))) (ax_nd (ax_nd (ax_lf ax_d308_1085 rfl) (ax_lf ax_d308_1088 rfl)) (ax_nd (ax_lf ax_d308_1089 rfl) (ax_lf ax_d308_1090 rfl))))) (ax_nd (ax_nd (ax_nd (ax_lf ax_d308_1091 rfl) (ax_nd (ax_lf ax_d308_1092 rfl) (ax_lf ax_d308_1093 rfl))) (ax_nd (ax_nd (ax_lf ax_d308_1094 rfl) (ax_lf ax_d308_1097 rfl)) (ax_nd (ax_lf ax_d308_1100 rfl) (ax_lf ax_d308_1101 rfl)))) (ax_nd (ax_nd (ax_nd (ax_lf ax_d308_1102 rfl) (ax_lf ax_d308_1103 rfl)) (ax_nd (ax_lf ax_d308_1106 rfl) (ax_lf ax_d308_1107 rfl))) (ax_nd (ax_nd (ax_lf ax_d308_1110 rfl) (ax_lf ax_d308_1113 rfl)) (ax_nd (ax_lf ax_d308_1114 rfl) (ax_lf ax_d308_1115 rfl))))))))) (ax_nd (ax_nd (ax_nd (ax_nd (ax_nd (ax_nd (ax_nd (ax_lf ax_d308_1116 rfl) (ax_nd (ax_lf ax_d308_1119 rfl) (ax_lf ax_d308_1120 rfl))) (ax_nd (ax_nd (ax_lf ax_d308_1123 rfl) (ax_lf ax_d308_1126 rfl)) (ax_nd (ax_lf ax_d308_1127 rfl) (ax_lf ax_d308_1128 rfl)))) (ax_nd (ax_nd (ax_nd (ax_lf ax_d308_1129 rfl) (ax_lf ax_d308_1130 rfl)) (ax_nd (ax_lf ax_d308_1131 rfl) (ax_lf ax_d308_1132 rfl))) (ax_nd (ax_nd (ax_lf ax_d308_1133 rfl) (ax_lf ax_d308_1134 rfl)) (ax_nd (ax_lf ax_d308_1137 rfl) (ax_lf ax_d308_1138 rfl))))) (ax_nd (ax_nd (ax_nd (ax_lf ax_d308_1139 rfl) (ax_nd (ax_lf ax_d308_1140 rfl) (ax_lf ax_d308_1141 rfl))) (ax_nd (ax_nd (ax_lf ax_d308_1142 rfl) (ax_lf ax_d308_1143 rfl)) (ax_nd (ax_lf ax_d308_1146 rfl) (ax_lf ax_d308_1149 rfl)))) (ax_nd (ax_nd (ax_nd (ax_lf ax_d308_1150 rfl) (ax_lf ax_d308_1151 rfl)) (ax_nd (ax_lf ax_d308_1152 rfl) (ax_lf ax_d308_1153 rfl))) (ax_nd (ax_nd (ax_lf ax_d308_1154 rfl) (ax_lf ax_d308_1155 rfl)) (ax_nd (ax_lf ax_d308_1156 rfl) (ax_lf ax_d308_1157 rfl)))))) (ax_nd (ax_nd (ax_nd (ax_nd (ax_lf ax_d308_1158 rfl) (ax_nd (ax_lf ax_d308_1159 rfl) (ax_lf ax_d308_1160 rfl))) (ax_nd (ax_nd (ax_lf ax_d308_1161 rfl) (ax_lf ax_d308_1162 rfl)) (ax_nd (ax_lf ax_d308_1165 rfl) (ax_lf ax_d308_1166 rfl)))) (ax_nd (ax_nd (ax_nd (ax_lf ax_d308_1167 rfl) (ax_lf ax_d308_1168 rfl)) (ax_nd (ax_lf ax_d308_1169 rfl) (ax_lf ax_d308_1170 rfl))) (ax_nd (ax_nd (ax_lf ax_d308_1171 rfl) (ax_lf ax_d308_1172 rfl)) (ax_nd (ax_lf ax_d308_1173 rfl) (ax_lf ax_d308_1174 rfl))))) (ax_nd (ax_nd (ax_nd (ax_lf ax_d308_1175 rfl) (ax_nd (ax_lf ax_d308_1176 rfl) (ax_lf ax_d308_1179 rfl))) (ax_nd (ax_nd (ax_lf ax_d308_1182 rfl) (ax_lf ax_d308_1183 rfl)) (ax_nd (ax_lf ax_d308_1184 rfl) (ax_lf ax_d308_1185 rfl)))) (ax_nd (ax_nd (ax_nd (ax_lf ax_d308_1186 rfl) (ax_lf ax_d308_1187 rfl)) (ax_nd (ax_lf ax_d308_1188 rfl) (ax_lf ax_d308_1189 rfl))) (ax_nd (ax_nd (ax_lf ax_d308_1190 rfl) (ax_lf ax_d308_1193 rfl)) (ax_nd (ax_lf ax_d308_1194 rfl) (ax_lf ax_d308_1195 rfl))))))) (ax_nd (ax_nd (ax_nd (ax_nd (ax_nd (ax_lf ax_d308_1196 rfl) (ax_nd (ax_lf ax_d308_1197 rfl) (ax_lf ax_d308_1198 rfl))) (ax_nd (ax_nd (ax_lf ax_d308_1199 rfl) (ax_lf ax_d308_1202 rfl)) (ax_nd (ax_lf ax_d308_1205 rfl) (ax_lf ax_d308_1206 rfl)))) (ax_nd (ax_nd (ax_nd (ax_lf ax_d308_1207 rfl) (ax_lf ax_d308_1208 rfl)) (ax_nd (ax_lf ax_d308_1209 rfl) (ax_lf ax_d308_1210 rfl))) (ax_nd (ax_nd (ax_lf ax_d308_1211 rfl) (ax_lf ax_d308_1212 rfl)) (ax_nd (ax_lf ax_d308_1213 rfl) (ax_lf ax_d308_1216 rfl))))) (ax_nd (ax_nd (ax_nd (ax_lf ax_d308_1217 rfl) (ax_nd (ax_lf ax_d308_1218 rfl) (ax_lf ax_d308_1219 rfl))) (ax_nd (ax_nd (ax_lf ax_d308_1220 rfl) (ax_lf ax_d308_1221 rfl)) (ax_nd (ax_lf ax_d308_1222 rfl) (ax_lf ax_d308_1225 rfl)))) (ax_nd (ax_nd (ax_nd (ax_lf ax_d308_1226 rfl) (ax_lf ax_d308_1229 rfl)) (ax_nd (ax_lf ax_d308_1230 rfl) (ax_lf ax_d308_1231 rfl))) (ax_nd (ax_nd (ax_lf ax_d308_1232 rfl) (ax_lf ax_d308_1233 rfl)) (ax_nd (ax_lf ax_d308_1234 rfl) (ax_lf ax_d308_1235 rfl)))))) (ax_nd (ax_nd (ax_nd (ax_nd (ax_lf ax_d308_1236 rfl) (ax_nd (ax_lf ax_d308_1237 rfl) (ax_lf ax_d308_1240 rfl))) (ax_nd (ax_nd (ax_lf ax_d308_1241 rfl) (ax_lf ax_d308_1242 rfl)) (ax_nd (ax_lf ax_d308_1243 rfl) (ax_lf ax_d308_1244 rfl)))) (ax_nd (ax_nd (ax_nd (ax_lf ax_d308_1245 rfl) (ax_lf ax_d308_1246 rfl)) (ax_nd (ax_lf ax_d308_1249 rfl) (ax_lf ax_d308_1250 rfl))) (ax_nd (ax_nd (ax_lf ax_d308_1253 rfl) (ax_lf ax_d308_1254 rfl)) (ax_nd (ax_lf ax_d308_1255 rfl) (ax_lf ax_d308_1256 rfl))))) (ax_nd (ax_nd (ax_nd (ax_lf ax_d308_1259 rfl) (ax_nd (ax_lf ax_d308_1260 rfl) (ax_lf ax_d308_1263 rfl))) (ax_nd (ax_nd (ax_lf ax_d308_1266 rfl) (ax_lf ax_d308_1267 rfl)) (ax_nd (ax_lf ax_d308_1268 rfl) (ax_lf ax_d308_1269 rfl)))) (ax_nd (ax_nd (ax_nd (ax_lf ax_d308_1270 rfl) (ax_lf ax_d308_1271 rfl)) (ax_nd (ax_lf ax_d308_1272 rfl) (ax_lf ax_d308_1273 rfl))) (ax_nd (ax_nd (ax_lf ax_d308_1274 rfl) (ax_lf ax_d308_1275 rfl)) (ax_nd (ax_lf ax_d308_1276 rfl) (ax_lf ax_d308_1277 rfl)))))))) (ax_nd (ax_nd (ax_nd (ax_nd (ax_nd (ax_nd (ax_lf ax_d308_1278 rfl) (ax_nd (ax_lf ax_d308_1279 rfl) (ax_lf ax_d308_1282 rfl))) (ax_nd (ax_nd (ax_lf ax_d308_1283 rfl) (ax_lf ax_d308_1284 rfl)) (ax_nd (ax_lf ax_d308_1285 rfl) (ax_lf ax_d308_1286 rfl)))) (ax_nd (ax_nd (ax_nd (ax_lf ax_d308_1287 rfl) (ax_lf ax_d308_1288 rfl)) (ax_nd (ax_lf ax_d308_1289 rfl) (ax_lf ax_d308_1290 rfl))) (ax_nd (ax_nd (ax_lf ax_d308_1291 rfl) (ax_lf ax_d308_1292 rfl)) (ax_nd (ax_lf ax_d308_1293 rfl) (ax_lf ax_d308_1296 rfl))))) (ax_nd (ax_nd (ax_nd (ax_lf ax_d308_1299 rfl) (ax_nd (ax_lf ax_d308_1300 rfl) (ax_lf ax_d308_1301 rfl))) (ax_nd (ax_nd (ax_lf ax_d308_1302 rfl) (ax_lf ax_d308_1303 rfl)) (ax_nd (ax_lf ax_d308_1304 rfl) (ax_lf ax_d308_1305 rfl)))) (ax_nd (ax_nd (ax_nd (ax_lf ax_d308_1306 rfl) (ax_lf ax_d308_1307 rfl)) (ax_nd (ax_lf ax_d308_1310 rfl) (ax_lf ax_d308_1311 rfl))) (ax_nd (ax_nd (ax_lf ax_d308_1312 rfl) (ax_lf ax_d308_1313 rfl)) (ax_nd (ax_lf ax_d308_1314 rfl) (ax_lf ax_d308_1315 rfl)))))) (ax_nd (ax_nd (ax_nd (ax_nd (ax_lf ax_d308_1316 rfl) (ax_nd (ax_lf ax_d308_1319 rfl) (ax_lf ax_d308_1322 rfl))) (ax_nd (ax_nd (ax_lf ax_d308_1323 rfl) (ax_lf ax_d308_1324 rfl)) (ax_nd (ax_lf ax_d308_1325 rfl) (ax_lf ax_d308_1326 rfl)))) (ax_nd (ax_nd (ax_nd (ax_lf ax_d308_1327 rfl) (ax_lf ax_d308_1328 rfl)) (ax_nd (ax_lf ax_d308_1329 rfl) (ax_lf ax_d308_1330 rfl))) (ax_nd (ax_nd (ax_lf ax_d308_1331 rfl) (ax_lf ax_d308_1332 rfl)) (ax_nd (ax_lf ax_d308_1333 rfl) (ax_lf ax_d308_1334 rfl))))) (ax_nd (ax_nd (ax_nd (ax_lf ax_d308_1335 rfl) (ax_nd (ax_lf ax_d308_1338 rfl) (ax_lf ax_d308_1339 rfl))) (ax_nd (ax_nd (ax_lf ax_d308_1340 rfl) (ax_lf ax_d308_1341 rfl)) (ax_nd (ax_lf ax_d308_1342 rfl) (ax_lf ax_d308_1343 rfl)))) (ax_nd (ax_nd (ax_nd (ax_lf ax_d308_1344 rfl) (ax_lf ax_d308_1345 rfl)) (ax_nd (ax_lf ax_d308_1346 rfl) (ax_lf ax_d308_1347 rfl))) (ax_nd (ax_nd (ax_lf ax_d308_1348 rfl) (ax_lf ax_d308_1349 rfl)) (ax_nd (ax_lf ax_d308_1352 rfl) (ax_lf ax_d308_1355 rfl))))))) (ax_nd (ax_nd (ax_nd (ax_nd (ax_nd (ax_lf ax_d308_1356 rfl) (ax_nd (ax_lf ax_d308_1357 rfl) (ax_lf ax_d308_1358 rfl))) (ax_nd (ax_nd (ax_lf ax_d308_1361 rfl) (ax_lf ax_d308_1362 rfl)) (ax_nd (ax_lf ax_d308_1365 rfl) (ax_lf ax_d308_1368 rfl)))) (ax_nd (ax_nd (ax_nd (ax_lf ax_d308_1369 rfl) (ax_lf ax_d308_1370 rfl)) (ax_nd (ax_lf ax_d308_1371 rfl) (ax_lf ax_d308_1372 rfl))) (ax_nd (ax_nd (ax_lf ax_d308_1373 rfl) (ax_lf ax_d308_1374 rfl)) (ax_nd (ax_lf ax_d308_1375 rfl) (ax_lf ax_d308_1376 rfl))))) (ax_nd (ax_nd (ax_nd (ax_lf ax_d308_1379 rfl) (ax_nd (ax_lf ax_d308_1380 rfl) (ax_lf ax_d308_1381 rfl))) (ax_nd (ax_nd (ax_lf ax_d308_1382 rfl) (ax_lf ax_d308_1383 rfl)) (ax_nd (ax_lf ax_d308_1384 rfl) (ax_lf ax_d308_1385 rfl)))) (ax_nd (ax_nd (ax_nd (ax_lf ax_d308_1388 rfl) (ax_lf ax_d308_1391 rfl)) (ax_nd (ax_lf ax_d308_1392 rfl) (ax_lf ax_d308_1393 rfl))) (ax_nd (ax_nd (ax_lf ax_d308_1394 rfl) (ax_lf ax_d308_1397 rfl)) (ax_nd (ax_lf ax_d308_1398 rfl) (ax_lf ax_d308_1401 rfl)))))) (ax_nd (ax_nd (ax_nd (ax_nd (ax_lf ax_d308_1404 rfl) (ax_nd (ax_lf ax_d308_1405 rfl) (ax_lf ax_d308_1406 rfl))) (ax_nd (ax_nd (ax_lf ax_d308_1407 rfl) (ax_lf ax_d308_1410 rfl)) (ax_nd (ax_lf ax_d308_1411 rfl) (ax_lf ax_d308_1414 rfl)))) (ax_nd (ax_nd (ax_nd (ax_lf ax_d308_1417 rfl) (ax_lf ax_d308_1418 rfl)) (ax_nd (ax_lf ax_d308_1419 rfl) (ax_lf ax_d308_1420 rfl))) (ax_nd (ax_nd (ax_lf ax_d308_1421 rfl) (ax_lf ax_d308_1422 rfl)) (ax_nd (ax_lf ax_d308_1423 rfl) (ax_lf ax_d308_1424 rfl))))) (ax_nd (ax_nd (ax_nd (ax_lf ax_d308_1425 rfl) (ax_nd (ax_lf ax_d308_1428 rfl) (ax_lf ax_d308_1429 rfl))) (ax_nd (ax_nd (ax_lf ax_d308_1430 rfl) (ax_lf ax_d308_1431 rfl)) (ax_nd (ax_lf ax_d308_1432 rfl) (ax_lf ax_d308_1433 rfl)))) (ax_nd (ax_nd (ax_nd (ax_lf ax_d308_1434 rfl) (ax_lf ax_d308_1437 rfl)) (ax_nd (ax_lf ax_d308_1440 rfl) (ax_lf ax_d308_1441 rfl))) (ax_nd (ax_nd (ax_lf ax_d308_1442 rfl) (ax_lf ax_d308_1445 rfl)) (ax_nd (ax_lf ax_d308_1448 rfl) (ax_lf ax_d308_1449 rfl)))))))))))
theorem ax_d309 (pc : Nat) : ax_Gd prog_14_method_49_code 1 pc (ax_c309 pc) := ax_n0 (ax_nd (ax_nd (ax_nd (ax_nd (ax_nd (ax_lf (by decide +kernel : decode _ 0 = .ok (.iload_n 0, 1)) rfl) (ax_lf (by decide +kernel : decode _ 1 = .ok (.iload_n 0, 1)) rfl)) (ax_nd (ax_lf (by decide +kernel : decode _ 2 = .ok (.iconst 1, 1)) rfl) (ax_nd (ax_lf (by decide +kernel : decode _ 3 = .ok (.iushr, 1)) rfl) (ax_lf (by decide +kernel : decode _ 4 = .ok (.ldc_w 265, 3)) rfl)))) (ax_nd (ax_nd (ax_lf (by decide +kernel : decode _ 7 = .ok (.iand, 1)) rfl) (ax_lf (by decide +kernel : decode _ 8 = .ok (.isub, 1)) rfl)) (ax_nd (ax_lf (by decide +kernel : decode _ 9 = .ok (.istore_n 0, 1)) rfl) (ax_nd (ax_lf (by decide +kernel : decode _ 10 = .ok (.iload_n 0, 1)) rfl) (ax_lf (by decide +kernel : decode _ 11 = .ok (.ldc_w 266, 3)) rfl))))) (ax_nd (ax_nd (ax_nd (ax_lf (by decide +kernel : decode _ 14 = .ok (.iand, 1)) rfl) (ax_lf (by decide +kernel : decode _ 15 = .ok (.iload_n 0, 1)) rfl)) (ax_nd (ax_lf (by decide +kernel : decode _ 16 = .ok (.iconst 2, 1)) rfl) (ax_nd (ax_lf (by decide +kernel : decode _ 17 = .ok (.iushr, 1)) rfl) (ax_lf (by decide +kernel : decode _ 18 = .ok (.ldc_w 266, 3)) rfl)))) (ax_nd (ax_nd (ax_lf (by decide +kernel : decode _ 21 = .ok (.iand, 1)) rfl) (ax_nd (ax_lf (by decide +kernel : decode _ 22 = .ok (.iadd, 1)) rfl) (ax_lf (by decide +kernel : decode _ 23 = .ok (.istore_n 0, 1)) rfl))) (ax_nd (ax_lf (by decide +kernel : decode _ 24 = .ok (.iload_n 0, 1)) rfl) (ax_nd (ax_lf (by decide +kernel : decode _ 25 = .ok (.iload_n 0, 1)) rfl) (ax_lf (by decide +kernel : decode _ 26 = .ok (.iconst 4, 1)) rfl)))))) (ax_nd (ax_nd (ax_nd (ax_nd (ax_lf (by decide +kernel : decode _ 27 = .ok (.iushr, 1)) rfl) (ax_lf (by decide +kernel : decode _ 28 = .ok (.iadd, 1)) rfl)) (ax_nd (ax_lf (by decide +kernel : decode _ 29 = .ok (.ldc_w 267, 3)) rfl) (ax_nd (ax_lf (by decide +kernel : decode _ 32 = .ok (.iand, 1)) rfl) (ax_lf (by decide +kernel : decode _ 33 = .ok (.istore_n 0, 1)) rfl)))) (ax_nd (ax_nd (ax_lf (by decide +kernel : decode _ 34 = .ok (.iload_n 0, 1)) rfl) (ax_lf (by decide +kernel : decode _ 35 = .ok (.iload_n 0, 1)) rfl)) (ax_nd (ax_lf (by decide +kernel : decode _ 36 = .ok (.bipush 8, 2)) rfl) (ax_nd (ax_lf (by decide +kernel : decode _ 38 = .ok (.iushr, 1)) rfl) (ax_lf (by decide +kernel : decode _ 39 = .ok (.iadd, 1)) rfl))))) (ax_nd (ax_nd (ax_nd (ax_lf (by decide +kernel : decode _ 40 = .ok (.istore_n 0, 1)) rfl) (ax_lf (by decide +kernel : decode _ 41 = .ok (.iload_n 0, 1)) rfl)) (ax_nd (ax_lf (by decide +kernel : decode _ 42 = .ok (.iload_n 0, 1)) rfl) (ax_nd (ax_lf (by decide +kernel : decode _ 43 = .ok (.bipush 16, 2)) rfl) (ax_lf (by decide +kernel : decode _ 45 = .ok (.iushr, 1)) rfl)))) (ax_nd (ax_nd (ax_lf (by decide +kernel : decode _ 46 = .ok (.iadd, 1)) rfl) (ax_nd (ax_lf (by decide +kernel : decode _ 47 = .ok (.istore_n 0, 1)) rfl) (ax_lf (by decide +kernel : decode _ 48 = .ok (.iload_n 0, 1)) rfl))) (ax_nd (ax_lf (by decide +kernel : decode _ 49 = .ok (.bipush 63, 2)) rfl) (ax_nd (ax_lf (by decide +kernel : decode _ 51 = .ok (.iand, 1)) rfl) (ax_lf (by decide +kernel : decode _ 52 = .ok (.ireturn, 1)) rfl)))))))
theorem ax_d310 (pc : Nat) : ax_Gd prog_20_method_103_code 4 pc (ax_c310 pc) := ax_n0 (ax_nd (ax_nd (ax_nd (ax_lf (by decide +kernel : decode _ 0 = .ok (.iconst 0, 1)) rfl) (ax_nd (ax_lf (by decide +kernel : decode _ 1 = .ok (.istore_n 2, 1)) rfl) (ax_lf (by decide +kernel : decode _ 2 = .ok (.aload_n 0, 1)) rfl))) (ax_nd (ax_nd (ax_lf (by decide +kernel : decode _ 3 = .ok (.arraylength, 1)) rfl) (ax_lf (by decide +kernel : decode _ 4 = .ok (.istore_n 3, 1)) rfl)) (ax_nd (ax_lf (by decide +kernel : decode _ 5 = .ok (.iload_n 2, 1)) rfl) (ax_lf (by decide +kernel : decode _ 6 = .ok (.iload_n 3, 1)) rfl)))) (ax_nd (ax_nd (ax_nd (ax_lf (by decide +kernel : decode _ 7 = .ok (.if_icmp .ge 13, 3)) rfl) (ax_lf (by decide +kernel : decode _ 10 = .ok (.aload_n 0, 1)) rfl)) (ax_nd (ax_lf (by decide +kernel : decode _ 11 = .ok (.iload_n 2, 1)) rfl) (ax_lf (by decide +kernel : decode _ 12 = .ok (.iload_n 1, 1)) rfl))) (ax_nd (ax_nd (ax_lf (by decide +kernel : decode _ 13 = .ok (.iastore, 1)) rfl) (ax_lf (by decide +kernel : decode _ 14 = .ok (.iinc 2 1, 3)) rfl)) (ax_nd (ax_lf (by decide +kernel : decode _ 17 = .ok (.goto (-12), 3)) rfl) (ax_lf (by decide +kernel : decode _ 20 = .ok (.return_, 1)) rfl)))))
theorem ax_d311 (pc : Nat) : ax_Gd prog_20_method_123_code 3 pc (ax_c311 pc) := ax_n0 (ax_nd (ax_nd (ax_nd (ax_nd (ax_lf (by decide +kernel : decode _ 0 = .ok (.iload_n 1, 1)) rfl) (ax_lf (by decide +kernel : decode _ 1 = .ok (.aload_n 0, 1)) rfl)) (ax_nd (ax_lf (by decide +kernel : decode _ 2 = .ok (.arraylength, 1)) rfl) (ax_nd (ax_lf (by decide +kernel : decode _ 3 = .ok (.if_icmp .ne 11, 3)) rfl) (ax_lf (by decide +kernel : decode _ 6 = .ok (.aload_n 0, 1)) rfl)))) (ax_nd (ax_nd (ax_lf (by decide +kernel : decode _ 7 = .ok (.invokevirtual 316, 3)) rfl) (ax_nd (ax_lf (by decide +kernel : decode _ 10 = .ok (.checkcast 317, 3)) rfl) (ax_lf (by decide +kernel : decode _ 13 = .ok (.areturn, 1)) rfl))) (ax_nd (ax_lf (by decide +kernel : decode _ 14 = .ok (.iload_n 1, 1)) rfl) (ax_nd (ax_lf (by decide +kernel : decode _ 15 = .ok (.newarray .int, 2)) rfl) (ax_lf (by decide +kernel : decode _ 17 = .ok (.astore_n 2, 1)) rfl))))) (ax_nd (ax_nd (ax_nd (ax_lf (by decide +kernel : decode _ 18 = .ok (.aload_n 0, 1)) rfl) (ax_lf (by decide +kernel : decode _ 19 = .ok (.iconst 0, 1)) rfl)) (ax_nd (ax_lf (by decide +kernel : decode _ 20 = .ok (.aload_n 2, 1)) rfl) (ax_nd (ax_lf (by decide +kernel : decode _ 21 = .ok (.iconst 0, 1)) rfl) (ax_lf (by decide +kernel : decode _ 22 = .ok (.aload_n 0, 1)) rfl)))) (ax_nd (ax_nd (ax_lf (by decide +kernel : decode _ 23 = .ok (.arraylength, 1)) rfl) (ax_nd (ax_lf (by decide +kernel : decode _ 24 = .ok (.iload_n 1, 1)) rfl) (ax_lf (by decide +kernel : decode _ 25 = .ok (.invokestatic 304, 3)) rfl))) (ax_nd (ax_lf (by decide +kernel : decode _ 28 = .ok (.invokestatic 150, 3)) rfl) (ax_nd (ax_lf (by decide +kernel : decode _ 31 = .ok (.aload_n 2, 1)) rfl) (ax_lf (by decide +kernel : decode _ 32 = .ok (.areturn, 1)) rfl))))))
