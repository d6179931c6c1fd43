theorem dl_204 : decode code 204 = .ok (.aload_n 1, 1) := by decide +kernel
theorem dl_205 : decode code 205 = .ok (.aload_n 0, 1) := by decide +kernel
theorem dl_206 : decode code 206 = .ok (.iload_n 3, 1) := by decide +kernel
theorem dl_207 : decode code 207 = .ok (.iconst 1, 1) := by decide +kernel
theorem dl_208 : decode code 208 = .ok (.iadd, 1) := by decide +kernel
theorem dl_209 : decode code 209 = .ok (.iaload, 1) := by decide +kernel
theorem dl_210 : decode code 210 = .ok (.aload_n 0, 1) := by decide +kernel
theorem dl_211 : decode code 211 = .ok (.iload_n 3, 1) := by decide +kernel
theorem dl_212 : decode code 212 = .ok (.iconst 2, 1) := by decide +kernel
theorem dl_213 : decode code 213 = .ok (.iadd, 1) := by decide +kernel
theorem dl_214 : decode code 214 = .ok (.iaload, 1) := by decide +kernel
theorem dl_215 : decode code 215 = .ok (.aload_n 0, 1) := by decide +kernel
theorem dl_216 : decode code 216 = .ok (.iload_n 3, 1) := by decide +kernel
theorem dl_217 : decode code 217 = .ok (.iconst 3, 1) := by decide +kernel
theorem dl_218 : decode code 218 = .ok (.iadd, 1) := by decide +kernel
theorem dl_219 : decode code 219 = .ok (.iaload, 1) := by decide +kernel
theorem dl_220 : decode code 220 = .ok (.aload_n 0, 1) := by decide +kernel
theorem dl_221 : decode code 221 = .ok (.iload_n 3, 1) := by decide +kernel
theorem dl_222 : decode code 222 = .ok (.iconst 4, 1) := by decide +kernel
theorem dl_223 : decode code 223 = .ok (.iadd, 1) := by decide +kernel
theorem dl_224 : decode code 224 = .ok (.iaload, 1) := by decide +kernel
theorem dl_225 : decode code 225 = .ok (.aload_n 0, 1) := by decide +kernel
theorem dl_226 : decode code 226 = .ok (.iload_n 3, 1) := by decide +kernel
theorem dl_227 : decode code 227 = .ok (.iconst 5, 1) := by decide +kernel
theorem dl_228 : decode code 228 = .ok (.iadd, 1) := by decide +kernel
theorem dl_229 : decode code 229 = .ok (.iaload, 1) := by decide +kernel
theorem dl_230 : decode code 230 = .ok (.invokevirtual 13, 3) := by decide +kernel
theorem dl_233 : decode code 233 = .ok (.aload_n 2, 1) := by decide +kernel
theorem dl_234 : decode code 234 = .ok (.aload_n 0, 1) := by decide +kernel
theorem dl_235 : decode code 235 = .ok (.iload_n 3, 1) := by decide +kernel
theorem dl_236 : decode code 236 = .ok (.iconst 1, 1) := by decide +kernel
theorem dl_237 : decode code 237 = .ok (.iadd, 1) := by decide +kernel
theorem dl_238 : decode code 238 = .ok (.iaload, 1) := by decide +kernel
theorem dl_239 : decode code 239 = .ok (.aload_n 0, 1) := by decide +kernel
theorem dl_240 : decode code 240 = .ok (.iload_n 3, 1) := by decide +kernel
theorem dl_241 : decode code 241 = .ok (.iconst 2, 1) := by decide +kernel
theorem dl_242 : decode code 242 = .ok (.iadd, 1) := by decide +kernel
theorem dl_243 : decode code 243 = .ok (.iaload, 1) := by decide +kernel
theorem dl_244 : decode code 244 = .ok (.aload_n 0, 1) := by decide +kernel
theorem dl_245 : decode code 245 = .ok (.iload_n 3, 1) := by decide +kernel
theorem dl_246 : decode code 246 = .ok (.iconst 3, 1) := by decide +kernel
theorem dl_247 : decode code 247 = .ok (.iadd, 1) := by decide +kernel
theorem dl_248 : decode code 248 = .ok (.iaload, 1) := by decide +kernel
theorem dl_249 : decode code 249 = .ok (.aload_n 0, 1) := by decide +kernel
theorem dl_250 : decode code 250 = .ok (.iload_n 3, 1) := by decide +kernel
theorem dl_251 : decode code 251 = .ok (.iconst 4, 1) := by decide +kernel
theorem dl_252 : decode code 252 = .ok (.iadd, 1) := by decide +kernel
theorem dl_253 : decode code 253 = .ok (.iaload, 1) := by decide +kernel
theorem dl_254 : decode code 254 = .ok (.aload_n 0, 1) := by decide +kernel
theorem dl_255 : decode code 255 = .ok (.iload_n 3, 1) := by decide +kernel
theorem dl_256 : decode code 256 = .ok (.iconst 5, 1) := by decide +kernel
theorem dl_257 : decode code 257 = .ok (.iadd, 1) := by decide +kernel
theorem dl_258 : decode code 258 = .ok (.iaload, 1) := by decide +kernel
theorem dl_259 : decode code 259 = .ok (.invokevirtual 17, 3) := by decide +kernel
theorem dl_262 : decode code 262 = .ok (.if_icmp .eq 989, 3) := by decide +kernel
theorem dl_265 : decode code 265 = .ok (.iconst 0, 1) := by decide +kernel
theorem dl_266 : decode code 266 = .ok (.ireturn, 1) := by decide +kernel
theorem dl_267 : decode code 267 = .ok (.aload_n 1, 1) := by decide +kernel
theorem dl_268 : decode code 268 = .ok (.aload_n 0, 1) := by decide +kernel
theorem dl_269 : decode code 269 = .ok (.iload_n 3, 1) := by decide +kernel
theorem dl_270 : decode code 270 = .ok (.iconst 1, 1) := by decide +kernel
theorem dl_271 : decode code 271 = .ok (.iadd, 1) := by decide +kernel
theorem dl_272 : decode code 272 = .ok (.iaload, 1) := by decide +kernel
theorem dl_273 : decode code 273 = .ok (.invokevirtual 18, 3) := by decide +kernel
theorem dl_276 : decode code 276 = .ok (.aload_n 2, 1) := by decide +kernel
theorem dl_277 : decode code 277 = .ok (.aload_n 0, 1) := by decide +kernel
theorem dl_278 : decode code 278 = .ok (.iload_n 3, 1) := by decide +kernel
theorem dl_279 : decode code 279 = .ok (.iconst 1, 1) := by decide +kernel
theorem dl_280 : decode code 280 = .ok (.iadd, 1) := by decide +kernel
theorem dl_281 : decode code 281 = .ok (.iaload, 1) := by decide +kernel
theorem dl_282 : decode code 282 = .ok (.invokevirtual 22, 3) := by decide +kernel
theorem dl_285 : decode code 285 = .ok (.if_icmp .eq 966, 3) := by decide +kernel
theorem dl_288 : decode code 288 = .ok (.iconst 0, 1) := by decide +kernel
theorem dl_289 : decode code 289 = .ok (.ireturn, 1) := by decide +kernel
theorem dl_290 : decode code 290 = .ok (.aload_n 1, 1) := by decide +kernel
theorem dl_291 : decode code 291 = .ok (.invokevirtual 23, 3) := by decide +kernel
theorem dl_294 : decode code 294 = .ok (.aload_n 2, 1) := by decide +kernel
theorem dl_295 : decode code 295 = .ok (.invokevirtual 27, 3) := by decide +kernel
theorem dl_298 : decode code 298 = .ok (.if_icmp .eq 953, 3) := by decide +kernel
theorem dl_301 : decode code 301 = .ok (.iconst 0, 1) := by decide +kernel
theorem dl_302 : decode code 302 = .ok (.ireturn, 1) := by decide +kernel
theorem dl_303 : decode code 303 = .ok (.aload_n 1, 1) := by decide +kernel
theorem dl_304 : decode code 304 = .ok (.aload_n 0, 1) := by decide +kernel
theorem dl_305 : decode code 305 = .ok (.iload_n 3, 1) := by decide +kernel
theorem dl_306 : decode code 306 = .ok (.iconst 1, 1) := by decide +kernel
theorem dl_307 : decode code 307 = .ok (.iadd, 1) := by decide +kernel
theorem dl_308 : decode code 308 = .ok (.iaload, 1) := by decide +kernel
theorem dl_309 : decode code 309 = .ok (.aload_n 0, 1) := by decide +kernel
theorem dl_310 : decode code 310 = .ok (.iload_n 3, 1) := by decide +kernel
theorem dl_311 : decode code 311 = .ok (.iconst 2, 1) := by decide +kernel
theorem dl_312 : decode code 312 = .ok (.iadd, 1) := by decide +kernel
theorem dl_313 : decode code 313 = .ok (.iaload, 1) := by decide +kernel
theorem dl_314 : decode code 314 = .ok (.invokevirtual 28, 3) := by decide +kernel
theorem dl_317 : decode code 317 = .ok (.aload_n 2, 1) := by decide +kernel
theorem dl_318 : decode code 318 = .ok (.aload_n 0, 1) := by decide +kernel
theorem dl_319 : decode code 319 = .ok (.iload_n 3, 1) := by decide +kernel
theorem dl_320 : decode code 320 = .ok (.iconst 1, 1) := by decide +kernel
theorem dl_321 : decode code 321 = .ok (.iadd, 1) := by decide +kernel
theorem dl_322 : decode code 322 = .ok (.iaload, 1) := by decide +kernel
theorem dl_323 : decode code 323 = .ok (.aload_n 0, 1) := by decide +kernel
theorem dl_324 : decode code 324 = .ok (.iload_n 3, 1) := by decide +kernel
theorem dl_325 : decode code 325 = .ok (.iconst 2, 1) := by decide +kernel
theorem dl_326 : decode code 326 = .ok (.iadd, 1) := by decide +kernel
theorem dl_327 : decode code 327 = .ok (.iaload, 1) := by decide +kernel
theorem dl_328 : decode code 328 = .ok (.invokevirtual 32, 3) := by decide +kernel
theorem dl_331 : decode code 331 = .ok (.if_icmp .eq 920, 3) := by decide +kernel
theorem dl_334 : decode code 334 = .ok (.iconst 0, 1) := by decide +kernel
theorem dl_335 : decode code 335 = .ok (.ireturn, 1) := by decide +kernel
theorem dl_336 : decode code 336 = .ok (.aload_n 1, 1) := by decide +kernel
theorem dl_337 : decode code 337 = .ok (.aload_n 0, 1) := by decide +kernel
theorem dl_338 : decode code 338 = .ok (.iload_n 3, 1) := by decide +kernel
theorem dl_339 : decode code 339 = .ok (.iconst 1, 1) := by decide +kernel
theorem dl_340 : decode code 340 = .ok (.iadd, 1) := by decide +kernel
theorem dl_341 : decode code 341 = .ok (.iaload, 1) := by decide +kernel
theorem dl_342 : decode code 342 = .ok (.aload_n 0, 1) := by decide +kernel
theorem dl_343 : decode code 343 = .ok (.iload_n 3, 1) := by decide +kernel
theorem dl_344 : decode code 344 = .ok (.iconst 2, 1) := by decide +kernel
theorem dl_345 : decode code 345 = .ok (.iadd, 1) := by decide +kernel
theorem dl_346 : decode code 346 = .ok (.iaload, 1) := by decide +kernel
theorem dl_347 : decode code 347 = .ok (.invokevirtual 33, 3) := by decide +kernel
theorem dl_350 : decode code 350 = .ok (.aload_n 2, 1) := by decide +kernel
theorem dl_351 : decode code 351 = .ok (.aload_n 0, 1) := by decide +kernel
theorem dl_352 : decode code 352 = .ok (.iload_n 3, 1) := by decide +kernel
theorem dl_353 : decode code 353 = .ok (.iconst 1, 1) := by decide +kernel
theorem dl_354 : decode code 354 = .ok (.iadd, 1) := by decide +kernel
theorem dl_355 : decode code 355 = .ok (.iaload, 1) := by decide +kernel
theorem dl_356 : decode code 356 = .ok (.aload_n 0, 1) := by decide +kernel
theorem dl_357 : decode code 357 = .ok (.iload_n 3, 1) := by decide +kernel
theorem dl_358 : decode code 358 = .ok (.iconst 2, 1) := by decide +kernel
theorem dl_359 : decode code 359 = .ok (.iadd, 1) := by decide +kernel
theorem dl_360 : decode code 360 = .ok (.iaload, 1) := by decide +kernel
theorem dl_361 : decode code 361 = .ok (.invokevirtual 36, 3) := by decide +kernel
theorem dl_364 : decode code 364 = .ok (.if_icmp .eq 887, 3) := by decide +kernel
theorem dl_367 : decode code 367 = .ok (.iconst 0, 1) := by decide +kernel
theorem dl_368 : decode code 368 = .ok (.ireturn, 1) := by decide +kernel
theorem dl_369 : decode code 369 = .ok (.aload_n 1, 1) := by decide +kernel
theorem dl_370 : decode code 370 = .ok (.aload_n 0, 1) := by decide +kernel
theorem dl_371 : decode code 371 = .ok (.iload_n 3, 1) := by decide +kernel
theorem dl_372 : decode code 372 = .ok (.iconst 1, 1) := by decide +kernel
theorem dl_373 : decode code 373 = .ok (.iadd, 1) := by decide +kernel
theorem dl_374 : decode code 374 = .ok (.iaload, 1) := by decide +kernel
theorem dl_375 : decode code 375 = .ok (.invokevirtual 37, 3) := by decide +kernel
theorem dl_378 : decode code 378 = .ok (.aload_n 2, 1) := by decide +kernel
theorem dl_379 : decode code 379 = .ok (.aload_n 0, 1) := by decide +kernel
theorem dl_380 : decode code 380 = .ok (.iload_n 3, 1) := by decide +kernel
theorem dl_381 : decode code 381 = .ok (.iconst 1, 1) := by decide +kernel
theorem dl_382 : decode code 382 = .ok (.iadd, 1) := by decide +kernel
theorem dl_383 : decode code 383 = .ok (.iaload, 1) := by decide +kernel
theorem dl_384 : decode code 384 = .ok (.invokevirtual 40, 3) := by decide +kernel
theorem dl_387 : decode code 387 = .ok (.if_icmp .eq 864, 3) := by decide +kernel
theorem dl_390 : decode code 390 = .ok (.iconst 0, 1) := by decide +kernel
theorem dl_391 : decode code 391 = .ok (.ireturn, 1) := by decide +kernel
theorem dl_392 : decode code 392 = .ok (.aload_n 1, 1) := by decide +kernel
theorem dl_393 : decode code 393 = .ok (.aload_n 0, 1) := by decide +kernel
theorem dl_394 : decode code 394 = .ok (.iload_n 3, 1) := by decide +kernel
theorem dl_395 : decode code 395 = .ok (.iconst 1, 1) := by decide +kernel
theorem dl_396 : decode code 396 = .ok (.iadd, 1) := by decide +kernel
theorem dl_397 : decode code 397 = .ok (.iaload, 1) := by decide +kernel
theorem dl_398 : decode code 398 = .ok (.invokevirtual 41, 3) := by decide +kernel
theorem dl_401 : decode code 401 = .ok (.aload_n 2, 1) := by decide +kernel
theorem dl_402 : decode code 402 = .ok (.aload_n 0, 1) := by decide +kernel
theorem dl_403 : decode code 403 = .ok (.iload_n 3, 1) := by decide +kernel
theorem dl_404 : decode code 404 = .ok (.iconst 1, 1) := by decide +kernel
theorem dl_405 : decode code 405 = .ok (.iadd, 1) := by decide +kernel
theorem dl_406 : decode code 406 = .ok (.iaload, 1) := by decide +kernel
theorem dl_407 : decode code 407 = .ok (.invokevirtual 44, 3) := by decide +kernel
theorem dl_410 : decode code 410 = .ok (.if_icmp .eq 841, 3) := by decide +kernel
theorem dl_413 : decode code 413 = .ok (.iconst 0, 1) := by decide +kernel
theorem dl_414 : decode code 414 = .ok (.ireturn, 1) := by decide +kernel
theorem dl_415 : decode code 415 = .ok (.aload_n 1, 1) := by decide +kernel
theorem dl_416 : decode code 416 = .ok (.aload_n 0, 1) := by decide +kernel
theorem dl_417 : decode code 417 = .ok (.iload_n 3, 1) := by decide +kernel
theorem dl_418 : decode code 418 = .ok (.iconst 1, 1) := by decide +kernel
theorem dl_419 : decode code 419 = .ok (.iadd, 1) := by decide +kernel
theorem dl_420 : decode code 420 = .ok (.iaload, 1) := by decide +kernel
theorem dl_421 : decode code 421 = .ok (.invokevirtual 45, 3) := by decide +kernel
theorem dl_424 : decode code 424 = .ok (.aload_n 2, 1) := by decide +kernel
theorem dl_425 : decode code 425 = .ok (.aload_n 0, 1) := by decide +kernel
theorem dl_426 : decode code 426 = .ok (.iload_n 3, 1) := by decide +kernel
theorem dl_427 : decode code 427 = .ok (.iconst 1, 1) := by decide +kernel
theorem dl_428 : decode code 428 = .ok (.iadd, 1) := by decide +kernel
theorem dl_429 : decode code 429 = .ok (.iaload, 1) := by decide +kernel
theorem dl_430 : decode code 430 = .ok (.invokevirtual 48, 3) := by decide +kernel
theorem dl_433 : decode code 433 = .ok (.if_icmp .eq 818, 3) := by decide +kernel
theorem dl_436 : decode code 436 = .ok (.iconst 0, 1) := by decide +kernel
theorem dl_437 : decode code 437 = .ok (.ireturn, 1) := by decide +kernel
theorem dl_438 : decode code 438 = .ok (.aload_n 1, 1) := by decide +kernel
theorem dl_439 : decode code 439 = .ok (.aload_n 0, 1) := by decide +kernel
theorem dl_440 : decode code 440 = .ok (.iload_n 3, 1) := by decide +kernel
theorem dl_441 : decode code 441 = .ok (.iconst 1, 1) := by decide +kernel
theorem dl_442 : decode code 442 = .ok (.iadd, 1) := by decide +kernel
theorem dl_443 : decode code 443 = .ok (.iaload, 1) := by decide +kernel
theorem dl_444 : decode code 444 = .ok (.invokevirtual 49, 3) := by decide +kernel
theorem dl_447 : decode code 447 = .ok (.aload_n 2, 1) := by decide +kernel
theorem dl_448 : decode code 448 = .ok (.aload_n 0, 1) := by decide +kernel
theorem dl_449 : decode code 449 = .ok (.iload_n 3, 1) := by decide +kernel
theorem dl_450 : decode code 450 = .ok (.iconst 1, 1) := by decide +kernel
theorem dl_451 : decode code 451 = .ok (.iadd, 1) := by decide +kernel
theorem dl_452 : decode code 452 = .ok (.iaload, 1) := by decide +kernel
theorem dl_453 : decode code 453 = .ok (.invokevirtual 52, 3) := by decide +kernel
theorem dl_456 : decode code 456 = .ok (.if_icmp .eq 795, 3) := by decide +kernel
theorem dl_459 : decode code 459 = .ok (.iconst 0, 1) := by decide +kernel
theorem dl_460 : decode code 460 = .ok (.ireturn, 1) := by decide +kernel
theorem dl_461 : decode code 461 = .ok (.aload_n 1, 1) := by decide +kernel
theorem dl_462 : decode code 462 = .ok (.invokevirtual 53, 3) := by decide +kernel
theorem dl_465 : decode code 465 = .ok (.aload_n 2, 1) := by decide +kernel
theorem dl_466 : decode code 466 = .ok (.invokevirtual 56, 3) := by decide +kernel
theorem dl_469 : decode code 469 = .ok (.if_icmp .eq 782, 3) := by decide +kernel
theorem dl_472 : decode code 472 = .ok (.iconst 0, 1) := by decide +kernel
theorem dl_473 : decode code 473 = .ok (.ireturn, 1) := by decide +kernel
theorem dl_474 : decode code 474 = .ok (.aload_n 1, 1) := by decide +kernel
theorem dl_475 : decode code 475 = .ok (.aload_n 0, 1) := by decide +kernel
theorem dl_476 : decode code 476 = .ok (.iload_n 3, 1) := by decide +kernel
theorem dl_477 : decode code 477 = .ok (.iconst 1, 1) := by decide +kernel
theorem dl_478 : decode code 478 = .ok (.iadd, 1) := by decide +kernel
theorem dl_479 : decode code 479 = .ok (.iaload, 1) := by decide +kernel
theorem dl_480 : decode code 480 = .ok (.aload_n 0, 1) := by decide +kernel
theorem dl_481 : decode code 481 = .ok (.iload_n 3, 1) := by decide +kernel
theorem dl_482 : decode code 482 = .ok (.iconst 2, 1) := by decide +kernel
theorem dl_483 : decode code 483 = .ok (.iadd, 1) := by decide +kernel
theorem dl_484 : decode code 484 = .ok (.iaload, 1) := by decide +kernel
theorem dl_485 : decode code 485 = .ok (.invokevirtual 57, 3) := by decide +kernel
theorem dl_488 : decode code 488 = .ok (.aload_n 2, 1) := by decide +kernel
theorem dl_489 : decode code 489 = .ok (.aload_n 0, 1) := by decide +kernel
theorem dl_490 : decode code 490 = .ok (.iload_n 3, 1) := by decide +kernel
theorem dl_491 : decode code 491 = .ok (.iconst 1, 1) := by decide +kernel
theorem dl_492 : decode code 492 = .ok (.iadd, 1) := by decide +kernel
theorem dl_493 : decode code 493 = .ok (.iaload, 1) := by decide +kernel
theorem dl_494 : decode code 494 = .ok (.aload_n 0, 1) := by decide +kernel
theorem dl_495 : decode code 495 = .ok (.iload_n 3, 1) := by decide +kernel
theorem dl_496 : decode code 496 = .ok (.iconst 2, 1) := by decide +kernel
theorem dl_497 : decode code 497 = .ok (.iadd, 1) := by decide +kernel
theorem dl_498 : decode code 498 = .ok (.iaload, 1) := by decide +kernel
theorem dl_499 : decode code 499 = .ok (.invokevirtual 60, 3) := by decide +kernel
theorem dl_502 : decode code 502 = .ok (.if_icmp .eq 749, 3) := by decide +kernel
theorem dl_505 : decode code 505 = .ok (.iconst 0, 1) := by decide +kernel
theorem dl_506 : decode code 506 = .ok (.ireturn, 1) := by decide +kernel
theorem dl_507 : decode code 507 = .ok (.aload_n 1, 1) := by decide +kernel
theorem dl_508 : decode code 508 = .ok (.aload_n 0, 1) := by decide +kernel
theorem dl_509 : decode code 509 = .ok (.iload_n 3, 1) := by decide +kernel
theorem dl_510 : decode code 510 = .ok (.iconst 1, 1) := by decide +kernel
theorem dl_511 : decode code 511 = .ok (.iadd, 1) := by decide +kernel
theorem dl_512 : decode code 512 = .ok (.iaload, 1) := by decide +kernel
theorem dl_513 : decode code 513 = .ok (.aload_n 0, 1) := by decide +kernel
theorem dl_514 : decode code 514 = .ok (.iload_n 3, 1) := by decide +kernel
theorem dl_515 : decode code 515 = .ok (.iconst 2, 1) := by decide +kernel
theorem dl_516 : decode code 516 = .ok (.iadd, 1) := by decide +kernel
theorem dl_517 : decode code 517 = .ok (.iaload, 1) := by decide +kernel
theorem dl_518 : decode code 518 = .ok (.invokevirtual 61, 3) := by decide +kernel
theorem dl_521 : decode code 521 = .ok (.aload_n 2, 1) := by decide +kernel
theorem dl_522 : decode code 522 = .ok (.aload_n 0, 1) := by decide +kernel
theorem dl_523 : decode code 523 = .ok (.iload_n 3, 1) := by decide +kernel
theorem dl_524 : decode code 524 = .ok (.iconst 1, 1) := by decide +kernel
theorem dl_525 : decode code 525 = .ok (.iadd, 1) := by decide +kernel
theorem dl_526 : decode code 526 = .ok (.iaload, 1) := by decide +kernel
theorem dl_527 : decode code 527 = .ok (.aload_n 0, 1) := by decide +kernel
theorem dl_528 : decode code 528 = .ok (.iload_n 3, 1) := by decide +kernel
theorem dl_529 : decode code 529 = .ok (.iconst 2, 1) := by decide +kernel
theorem dl_530 : decode code 530 = .ok (.iadd, 1) := by decide +kernel
theorem dl_531 : decode code 531 = .ok (.iaload, 1) := by decide +kernel
theorem dl_532 : decode code 532 = .ok (.invokevirtual 64, 3) := by decide +kernel
theorem dl_535 : decode code 535 = .ok (.if_icmp .eq 716, 3) := by decide +kernel
theorem dl_538 : decode code 538 = .ok (.iconst 0, 1) := by decide +kernel
theorem dl_539 : decode code 539 = .ok (.ireturn, 1) := by decide +kernel
theorem dl_540 : decode code 540 = .ok (.aload_n 1, 1) := by decide +kernel
theorem dl_541 : decode code 541 = .ok (.aload_n 0, 1) := by decide +kernel
theorem dl_542 : decode code 542 = .ok (.iload_n 3, 1) := by decide +kernel
theorem dl_543 : decode code 543 = .ok (.iconst 1, 1) := by decide +kernel
theorem dl_544 : decode code 544 = .ok (.iadd, 1) := by decide +kernel
theorem dl_545 : decode code 545 = .ok (.iaload, 1) := by decide +kernel
theorem dl_546 : decode code 546 = .ok (.invokevirtual 65, 3) := by decide +kernel
theorem dl_549 : decode code 549 = .ok (.aload_n 2, 1) := by decide +kernel
theorem dl_550 : decode code 550 = .ok (.aload_n 0, 1) := by decide +kernel
theorem dl_551 : decode code 551 = .ok (.iload_n 3, 1) := by decide +kernel
theorem dl_552 : decode code 552 = .ok (.iconst 1, 1) := by decide +kernel
theorem dl_553 : decode code 553 = .ok (.iadd, 1) := by decide +kernel
theorem dl_554 : decode code 554 = .ok (.iaload, 1) := by decide +kernel
theorem dl_555 : decode code 555 = .ok (.invokevirtual 68, 3) := by decide +kernel
theorem dl_558 : decode code 558 = .ok (.if_icmp .eq 693, 3) := by decide +kernel
theorem dl_561 : decode code 561 = .ok (.iconst 0, 1) := by decide +kernel
theorem dl_562 : decode code 562 = .ok (.ireturn, 1) := by decide +kernel
theorem dl_563 : decode code 563 = .ok (.aload_n 1, 1) := by decide +kernel
theorem dl_564 : decode code 564 = .ok (.invokevirtual 69, 3) := by decide +kernel
theorem dl_567 : decode code 567 = .ok (.aload_n 2, 1) := by decide +kernel
theorem dl_568 : decode code 568 = .ok (.invokevirtual 72, 3) := by decide +kernel
theorem dl_571 : decode code 571 = .ok (.if_icmp .eq 680, 3) := by decide +kernel
theorem dl_574 : decode code 574 = .ok (.iconst 0, 1) := by decide +kernel
theorem dl_575 : decode code 575 = .ok (.ireturn, 1) := by decide +kernel
theorem dl_576 : decode code 576 = .ok (.aload_n 1, 1) := by decide +kernel
theorem dl_577 : decode code 577 = .ok (.aload_n 0, 1) := by decide +kernel
theorem dl_578 : decode code 578 = .ok (.iload_n 3, 1) := by decide +kernel
theorem dl_579 : decode code 579 = .ok (.iconst 1, 1) := by decide +kernel
theorem dl_580 : decode code 580 = .ok (.iadd, 1) := by decide +kernel
theorem dl_581 : decode code 581 = .ok (.iaload, 1) := by decide +kernel
theorem dl_582 : decode code 582 = .ok (.invokevirtual 73, 3) := by decide +kernel
theorem dl_585 : decode code 585 = .ok (.aload_n 2, 1) := by decide +kernel
theorem dl_586 : decode code 586 = .ok (.aload_n 0, 1) := by decide +kernel
theorem dl_587 : decode code 587 = .ok (.iload_n 3, 1) := by decide +kernel
theorem dl_588 : decode code 588 = .ok (.iconst 1, 1) := by decide +kernel
theorem dl_589 : decode code 589 = .ok (.iadd, 1) := by decide +kernel
theorem dl_590 : decode code 590 = .ok (.iaload, 1) := by decide +kernel
theorem dl_591 : decode code 591 = .ok (.invokevirtual 76, 3) := by decide +kernel
theorem dl_594 : decode code 594 = .ok (.if_icmp .eq 657, 3) := by decide +kernel
theorem dl_597 : decode code 597 = .ok (.iconst 0, 1) := by decide +kernel
theorem dl_598 : decode code 598 = .ok (.ireturn, 1) := by decide +kernel
theorem dl_599 : decode code 599 = .ok (.aload_n 1, 1) := by decide +kernel
theorem dl_600 : decode code 600 = .ok (.invokevirtual 77, 3) := by decide +kernel
theorem dl_603 : decode code 603 = .ok (.aload_n 2, 1) := by decide +kernel
theorem dl_604 : decode code 604 = .ok (.invokevirtual 80, 3) := by decide +kernel
theorem dl_607 : decode code 607 = .ok (.if_icmp .eq 644, 3) := by decide +kernel
theorem dl_610 : decode code 610 = .ok (.iconst 0, 1) := by decide +kernel
theorem dl_611 : decode code 611 = .ok (.ireturn, 1) := by decide +kernel
theorem dl_612 : decode code 612 = .ok (.aload_n 1, 1) := by decide +kernel
theorem dl_613 : decode code 613 = .ok (.aload_n 0, 1) := by decide +kernel
theorem dl_614 : decode code 614 = .ok (.iload_n 3, 1) := by decide +kernel
theorem dl_615 : decode code 615 = .ok (.iconst 1, 1) := by decide +kernel
theorem dl_616 : decode code 616 = .ok (.iadd, 1) := by decide +kernel
theorem dl_617 : decode code 617 = .ok (.iaload, 1) := by decide +kernel
theorem dl_618 : decode code 618 = .ok (.aload_n 0, 1) := by decide +kernel
theorem dl_619 : decode code 619 = .ok (.iload_n 3, 1) := by decide +kernel
theorem dl_620 : decode code 620 = .ok (.iconst 2, 1) := by decide +kernel
theorem dl_621 : decode code 621 = .ok (.iadd, 1) := by decide +kernel
theorem dl_622 : decode code 622 = .ok (.iaload, 1) := by decide +kernel
theorem dl_623 : decode code 623 = .ok (.invokevirtual 81, 3) := by decide +kernel
theorem dl_626 : decode code 626 = .ok (.aload_n 2, 1) := by decide +kernel
theorem dl_627 : decode code 627 = .ok (.aload_n 0, 1) := by decide +kernel
theorem dl_628 : decode code 628 = .ok (.iload_n 3, 1) := by decide +kernel
theorem dl_629 : decode code 629 = .ok (.iconst 1, 1) := by decide +kernel
theorem dl_630 : decode code 630 = .ok (.iadd, 1) := by decide +kernel
theorem dl_631 : decode code 631 = .ok (.iaload, 1) := by decide +kernel
theorem dl_632 : decode code 632 = .ok (.aload_n 0, 1) := by decide +kernel
theorem dl_633 : decode code 633 = .ok (.iload_n 3, 1) := by decide +kernel
theorem dl_634 : decode code 634 = .ok (.iconst 2, 1) := by decide +kernel
theorem dl_635 : decode code 635 = .ok (.iadd, 1) := by decide +kernel
theorem dl_636 : decode code 636 = .ok (.iaload, 1) := by decide +kernel
theorem dl_637 : decode code 637 = .ok (.invokevirtual 84, 3) := by decide +kernel
theorem dl_640 : decode code 640 = .ok (.if_icmp .eq 611, 3) := by decide +kernel
theorem dl_643 : decode code 643 = .ok (.iconst 0, 1) := by decide +kernel
theorem dl_644 : decode code 644 = .ok (.ireturn, 1) := by decide +kernel
theorem dl_645 : decode code 645 = .ok (.aload_n 1, 1) := by decide +kernel
theorem dl_646 : decode code 646 = .ok (.aload_n 0, 1) := by decide +kernel
theorem dl_647 : decode code 647 = .ok (.iload_n 3, 1) := by decide +kernel
theorem dl_648 : decode code 648 = .ok (.iconst 1, 1) := by decide +kernel
theorem dl_649 : decode code 649 = .ok (.iadd, 1) := by decide +kernel
theorem dl_650 : decode code 650 = .ok (.iaload, 1) := by decide +kernel
theorem dl_651 : decode code 651 = .ok (.invokevirtual 85, 3) := by decide +kernel
theorem dl_654 : decode code 654 = .ok (.aload_n 2, 1) := by decide +kernel
theorem dl_655 : decode code 655 = .ok (.aload_n 0, 1) := by decide +kernel
theorem dl_656 : decode code 656 = .ok (.iload_n 3, 1) := by decide +kernel
theorem dl_657 : decode code 657 = .ok (.iconst 1, 1) := by decide +kernel
theorem dl_658 : decode code 658 = .ok (.iadd, 1) := by decide +kernel
theorem dl_659 : decode code 659 = .ok (.iaload, 1) := by decide +kernel
theorem dl_660 : decode code 660 = .ok (.invokevirtual 88, 3) := by decide +kernel
theorem dl_663 : decode code 663 = .ok (.if_icmp .eq 588, 3) := by decide +kernel
theorem dl_666 : decode code 666 = .ok (.iconst 0, 1) := by decide +kernel
theorem dl_667 : decode code 667 = .ok (.ireturn, 1) := by decide +kernel
theorem dl_668 : decode code 668 = .ok (.aload_n 1, 1) := by decide +kernel
theorem dl_669 : decode code 669 = .ok (.aload_n 0, 1) := by decide +kernel
theorem dl_670 : decode code 670 = .ok (.iload_n 3, 1) := by decide +kernel
theorem dl_671 : decode code 671 = .ok (.iconst 1, 1) := by decide +kernel
theorem dl_672 : decode code 672 = .ok (.iadd, 1) := by decide +kernel
theorem dl_673 : decode code 673 = .ok (.iaload, 1) := by decide +kernel
theorem dl_674 : decode code 674 = .ok (.aload_n 0, 1) := by decide +kernel
theorem dl_675 : decode code 675 = .ok (.iload_n 3, 1) := by decide +kernel
theorem dl_676 : decode code 676 = .ok (.iconst 2, 1) := by decide +kernel
theorem dl_677 : decode code 677 = .ok (.iadd, 1) := by decide +kernel
theorem dl_678 : decode code 678 = .ok (.iaload, 1) := by decide +kernel
theorem dl_679 : decode code 679 = .ok (.aload_n 0, 1) := by decide +kernel
theorem dl_680 : decode code 680 = .ok (.iload_n 3, 1) := by decide +kernel
theorem dl_681 : decode code 681 = .ok (.iconst 3, 1) := by decide +kernel
theorem dl_682 : decode code 682 = .ok (.iadd, 1) := by decide +kernel
theorem dl_683 : decode code 683 = .ok (.iaload, 1) := by decide +kernel
theorem dl_684 : decode code 684 = .ok (.invokevirtual 89, 3) := by decide +kernel
theorem dl_687 : decode code 687 = .ok (.aload_n 2, 1) := by decide +kernel
theorem dl_688 : decode code 688 = .ok (.aload_n 0, 1) := by decide +kernel
theorem dl_689 : decode code 689 = .ok (.iload_n 3, 1) := by decide +kernel
theorem dl_690 : decode code 690 = .ok (.iconst 1, 1) := by decide +kernel
theorem dl_691 : decode code 691 = .ok (.iadd, 1) := by decide +kernel
theorem dl_692 : decode code 692 = .ok (.iaload, 1) := by decide +kernel
theorem dl_693 : decode code 693 = .ok (.aload_n 0, 1) := by decide +kernel
theorem dl_694 : decode code 694 = .ok (.iload_n 3, 1) := by decide +kernel
theorem dl_695 : decode code 695 = .ok (.iconst 2, 1) := by decide +kernel
theorem dl_696 : decode code 696 = .ok (.iadd, 1) := by decide +kernel
theorem dl_697 : decode code 697 = .ok (.iaload, 1) := by decide +kernel
theorem dl_698 : decode code 698 = .ok (.aload_n 0, 1) := by decide +kernel
theorem dl_699 : decode code 699 = .ok (.iload_n 3, 1) := by decide +kernel
theorem dl_700 : decode code 700 = .ok (.iconst 3, 1) := by decide +kernel
theorem dl_701 : decode code 701 = .ok (.iadd, 1) := by decide +kernel
theorem dl_702 : decode code 702 = .ok (.iaload, 1) := by decide +kernel
theorem dl_703 : decode code 703 = .ok (.invokevirtual 93, 3) := by decide +kernel
theorem dl_706 : decode code 706 = .ok (.if_icmp .eq 545, 3) := by decide +kernel
theorem dl_709 : decode code 709 = .ok (.iconst 0, 1) := by decide +kernel
theorem dl_710 : decode code 710 = .ok (.ireturn, 1) := by decide +kernel
theorem dl_711 : decode code 711 = .ok (.aload_n 1, 1) := by decide +kernel
theorem dl_712 : decode code 712 = .ok (.aload_n 0, 1) := by decide +kernel
theorem dl_713 : decode code 713 = .ok (.iload_n 3, 1) := by decide +kernel
theorem dl_714 : decode code 714 = .ok (.iconst 1, 1) := by decide +kernel
theorem dl_715 : decode code 715 = .ok (.iadd, 1) := by decide +kernel
theorem dl_716 : decode code 716 = .ok (.iaload, 1) := by decide +kernel
theorem dl_717 : decode code 717 = .ok (.invokevirtual 94, 3) := by decide +kernel
theorem dl_720 : decode code 720 = .ok (.aload_n 2, 1) := by decide +kernel
theorem dl_721 : decode code 721 = .ok (.aload_n 0, 1) := by decide +kernel
theorem dl_722 : decode code 722 = .ok (.iload_n 3, 1) := by decide +kernel
theorem dl_723 : decode code 723 = .ok (.iconst 1, 1) := by decide +kernel
theorem dl_724 : decode code 724 = .ok (.iadd, 1) := by decide +kernel
theorem dl_725 : decode code 725 = .ok (.iaload, 1) := by decide +kernel
theorem dl_726 : decode code 726 = .ok (.invokevirtual 97, 3) := by decide +kernel
theorem dl_729 : decode code 729 = .ok (.if_icmp .eq 522, 3) := by decide +kernel
theorem dl_732 : decode code 732 = .ok (.iconst 0, 1) := by decide +kernel
theorem dl_733 : decode code 733 = .ok (.ireturn, 1) := by decide +kernel
theorem dl_734 : decode code 734 = .ok (.aload_n 1, 1) := by decide +kernel
theorem dl_735 : decode code 735 = .ok (.invokevirtual 98, 3) := by decide +kernel
theorem dl_738 : decode code 738 = .ok (.aload_n 2, 1) := by decide +kernel
theorem dl_739 : decode code 739 = .ok (.invokevirtual 101, 3) := by decide +kernel
theorem dl_742 : decode code 742 = .ok (.if_icmp .eq 509, 3) := by decide +kernel
theorem dl_745 : decode code 745 = .ok (.iconst 0, 1) := by decide +kernel
theorem dl_746 : decode code 746 = .ok (.ireturn, 1) := by decide +kernel
theorem dl_747 : decode code 747 = .ok (.aload_n 1, 1) := by decide +kernel
theorem dl_748 : decode code 748 = .ok (.aload_n 0, 1) := by decide +kernel
theorem dl_749 : decode code 749 = .ok (.iload_n 3, 1) := by decide +kernel
theorem dl_750 : decode code 750 = .ok (.iconst 1, 1) := by decide +kernel
theorem dl_751 : decode code 751 = .ok (.iadd, 1) := by decide +kernel
theorem dl_752 : decode code 752 = .ok (.iaload, 1) := by decide +kernel
theorem dl_753 : decode code 753 = .ok (.invokevirtual 102, 3) := by decide +kernel
theorem dl_756 : decode code 756 = .ok (.aload_n 2, 1) := by decide +kernel
theorem dl_757 : decode code 757 = .ok (.aload_n 0, 1) := by decide +kernel
theorem dl_758 : decode code 758 = .ok (.iload_n 3, 1) := by decide +kernel
theorem dl_759 : decode code 759 = .ok (.iconst 1, 1) := by decide +kernel
theorem dl_760 : decode code 760 = .ok (.iadd, 1) := by decide +kernel
theorem dl_761 : decode code 761 = .ok (.iaload, 1) := by decide +kernel
theorem dl_762 : decode code 762 = .ok (.invokevirtual 105, 3) := by decide +kernel
theorem dl_765 : decode code 765 = .ok (.if_icmp .eq 486, 3) := by decide +kernel
theorem dl_768 : decode code 768 = .ok (.iconst 0, 1) := by decide +kernel
theorem dl_769 : decode code 769 = .ok (.ireturn, 1) := by decide +kernel
theorem dl_770 : decode code 770 = .ok (.aload_n 1, 1) := by decide +kernel
theorem dl_771 : decode code 771 = .ok (.aload_n 0, 1) := by decide +kernel
theorem dl_772 : decode code 772 = .ok (.iload_n 3, 1) := by decide +kernel
theorem dl_773 : decode code 773 = .ok (.iconst 1, 1) := by decide +kernel
theorem dl_774 : decode code 774 = .ok (.iadd, 1) := by decide +kernel
theorem dl_775 : decode code 775 = .ok (.iaload, 1) := by decide +kernel
theorem dl_776 : decode code 776 = .ok (.aload_n 0, 1) := by decide +kernel
theorem dl_777 : decode code 777 = .ok (.iload_n 3, 1) := by decide +kernel
theorem dl_778 : decode code 778 = .ok (.iconst 2, 1) := by decide +kernel
theorem dl_779 : decode code 779 = .ok (.iadd, 1) := by decide +kernel
theorem dl_780 : decode code 780 = .ok (.iaload, 1) := by decide +kernel
theorem dl_781 : decode code 781 = .ok (.invokevirtual 106, 3) := by decide +kernel
theorem dl_784 : decode code 784 = .ok (.aload_n 2, 1) := by decide +kernel
theorem dl_785 : decode code 785 = .ok (.aload_n 0, 1) := by decide +kernel
theorem dl_786 : decode code 786 = .ok (.iload_n 3, 1) := by decide +kernel
theorem dl_787 : decode code 787 = .ok (.iconst 1, 1) := by decide +kernel
theorem dl_788 : decode code 788 = .ok (.iadd, 1) := by decide +kernel
theorem dl_789 : decode code 789 = .ok (.iaload, 1) := by decide +kernel
theorem dl_790 : decode code 790 = .ok (.aload_n 0, 1) := by decide +kernel
theorem dl_791 : decode code 791 = .ok (.iload_n 3, 1) := by decide +kernel
theorem dl_792 : decode code 792 = .ok (.iconst 2, 1) := by decide +kernel
theorem dl_793 : decode code 793 = .ok (.iadd, 1) := by decide +kernel
theorem dl_794 : decode code 794 = .ok (.iaload, 1) := by decide +kernel
theorem dl_795 : decode code 795 = .ok (.invokevirtual 109, 3) := by decide +kernel
theorem dl_798 : decode code 798 = .ok (.if_icmp .eq 453, 3) := by decide +kernel
theorem dl_801 : decode code 801 = .ok (.iconst 0, 1) := by decide +kernel
theorem dl_802 : decode code 802 = .ok (.ireturn, 1) := by decide +kernel
theorem dl_803 : decode code 803 = .ok (.aload_n 1, 1) := by decide +kernel
theorem dl_804 : decode code 804 = .ok (.aload_n 0, 1) := by decide +kernel
theorem dl_805 : decode code 805 = .ok (.iload_n 3, 1) := by decide +kernel
theorem dl_806 : decode code 806 = .ok (.iconst 1, 1) := by decide +kernel
theorem dl_807 : decode code 807 = .ok (.iadd, 1) := by decide +kernel
theorem dl_808 : decode code 808 = .ok (.iaload, 1) := by decide +kernel
theorem dl_809 : decode code 809 = .ok (.aload_n 0, 1) := by decide +kernel
theorem dl_810 : decode code 810 = .ok (.iload_n 3, 1) := by decide +kernel
theorem dl_811 : decode code 811 = .ok (.iconst 2, 1) := by decide +kernel
theorem dl_812 : decode code 812 = .ok (.iadd, 1) := by decide +kernel
theorem dl_813 : decode code 813 = .ok (.iaload, 1) := by decide +kernel
theorem dl_814 : decode code 814 = .ok (.invokevirtual 110, 3) := by decide +kernel
theorem dl_817 : decode code 817 = .ok (.aload_n 2, 1) := by decide +kernel
theorem dl_818 : decode code 818 = .ok (.aload_n 0, 1) := by decide +kernel
theorem dl_819 : decode code 819 = .ok (.iload_n 3, 1) := by decide +kernel
theorem dl_820 : decode code 820 = .ok (.iconst 1, 1) := by decide +kernel
theorem dl_821 : decode code 821 = .ok (.iadd, 1) := by decide +kernel
theorem dl_822 : decode code 822 = .ok (.iaload, 1) := by decide +kernel
theorem dl_823 : decode code 823 = .ok (.aload_n 0, 1) := by decide +kernel
theorem dl_824 : decode code 824 = .ok (.iload_n 3, 1) := by decide +kernel
theorem dl_825 : decode code 825 = .ok (.iconst 2, 1) := by decide +kernel
theorem dl_826 : decode code 826 = .ok (.iadd, 1) := by decide +kernel
theorem dl_827 : decode code 827 = .ok (.iaload, 1) := by decide +kernel
theorem dl_828 : decode code 828 = .ok (.invokevirtual 113, 3) := by decide +kernel
theorem dl_831 : decode code 831 = .ok (.if_icmp .eq 420, 3) := by decide +kernel
theorem dl_834 : decode code 834 = .ok (.iconst 0, 1) := by decide +kernel
theorem dl_835 : decode code 835 = .ok (.ireturn, 1) := by decide +kernel
theorem dl_836 : decode code 836 = .ok (.aload_n 1, 1) := by decide +kernel
theorem dl_837 : decode code 837 = .ok (.aload_n 0, 1) := by decide +kernel
theorem dl_838 : decode code 838 = .ok (.iload_n 3, 1) := by decide +kernel
theorem dl_839 : decode code 839 = .ok (.iconst 1, 1) := by decide +kernel
theorem dl_840 : decode code 840 = .ok (.iadd, 1) := by decide +kernel
theorem dl_841 : decode code 841 = .ok (.iaload, 1) := by decide +kernel
theorem dl_842 : decode code 842 = .ok (.invokevirtual 114, 3) := by decide +kernel
theorem dl_845 : decode code 845 = .ok (.aload_n 2, 1) := by decide +kernel
theorem dl_846 : decode code 846 = .ok (.aload_n 0, 1) := by decide +kernel
theorem dl_847 : decode code 847 = .ok (.iload_n 3, 1) := by decide +kernel
theorem dl_848 : decode code 848 = .ok (.iconst 1, 1) := by decide +kernel
theorem dl_849 : decode code 849 = .ok (.iadd, 1) := by decide +kernel
theorem dl_850 : decode code 850 = .ok (.iaload, 1) := by decide +kernel
theorem dl_851 : decode code 851 = .ok (.invokevirtual 117, 3) := by decide +kernel
theorem dl_854 : decode code 854 = .ok (.if_icmp .eq 397, 3) := by decide +kernel
theorem dl_857 : decode code 857 = .ok (.iconst 0, 1) := by decide +kernel
theorem dl_858 : decode code 858 = .ok (.ireturn, 1) := by decide +kernel
theorem dl_859 : decode code 859 = .ok (.aload_n 1, 1) := by decide +kernel
theorem dl_860 : decode code 860 = .ok (.aload_n 0, 1) := by decide +kernel
theorem dl_861 : decode code 861 = .ok (.iload_n 3, 1) := by decide +kernel
theorem dl_862 : decode code 862 = .ok (.iconst 1, 1) := by decide +kernel
theorem dl_863 : decode code 863 = .ok (.iadd, 1) := by decide +kernel
theorem dl_864 : decode code 864 = .ok (.iaload, 1) := by decide +kernel
theorem dl_865 : decode code 865 = .ok (.aload_n 0, 1) := by decide +kernel
theorem dl_866 : decode code 866 = .ok (.iload_n 3, 1) := by decide +kernel
theorem dl_867 : decode code 867 = .ok (.iconst 2, 1) := by decide +kernel
theorem dl_868 : decode code 868 = .ok (.iadd, 1) := by decide +kernel
theorem dl_869 : decode code 869 = .ok (.iaload, 1) := by decide +kernel
theorem dl_870 : decode code 870 = .ok (.aload_n 0, 1) := by decide +kernel
theorem dl_871 : decode code 871 = .ok (.iload_n 3, 1) := by decide +kernel
theorem dl_872 : decode code 872 = .ok (.iconst 3, 1) := by decide +kernel
theorem dl_873 : decode code 873 = .ok (.iadd, 1) := by decide +kernel
theorem dl_874 : decode code 874 = .ok (.iaload, 1) := by decide +kernel
theorem dl_875 : decode code 875 = .ok (.invokevirtual 118, 3) := by decide +kernel
theorem dl_878 : decode code 878 = .ok (.aload_n 2, 1) := by decide +kernel
theorem dl_879 : decode code 879 = .ok (.aload_n 0, 1) := by decide +kernel
theorem dl_880 : decode code 880 = .ok (.iload_n 3, 1) := by decide +kernel
theorem dl_881 : decode code 881 = .ok (.iconst 1, 1) := by decide +kernel
theorem dl_882 : decode code 882 = .ok (.iadd, 1) := by decide +kernel
theorem dl_883 : decode code 883 = .ok (.iaload, 1) := by decide +kernel
theorem dl_884 : decode code 884 = .ok (.aload_n 0, 1) := by decide +kernel
theorem dl_885 : decode code 885 = .ok (.iload_n 3, 1) := by decide +kernel
theorem dl_886 : decode code 886 = .ok (.iconst 2, 1) := by decide +kernel
theorem dl_887 : decode code 887 = .ok (.iadd, 1) := by decide +kernel
theorem dl_888 : decode code 888 = .ok (.iaload, 1) := by decide +kernel
theorem dl_889 : decode code 889 = .ok (.aload_n 0, 1) := by decide +kernel
theorem dl_890 : decode code 890 = .ok (.iload_n 3, 1) := by decide +kernel
theorem dl_891 : decode code 891 = .ok (.iconst 3, 1) := by decide +kernel
theorem dl_892 : decode code 892 = .ok (.iadd, 1) := by decide +kernel
theorem dl_893 : decode code 893 = .ok (.iaload, 1) := by decide +kernel
theorem dl_894 : decode code 894 = .ok (.invokevirtual 121, 3) := by decide +kernel
theorem dl_897 : decode code 897 = .ok (.if_icmp .eq 354, 3) := by decide +kernel
theorem dl_900 : decode code 900 = .ok (.iconst 0, 1) := by decide +kernel
theorem dl_901 : decode code 901 = .ok (.ireturn, 1) := by decide +kernel
theorem dl_902 : decode code 902 = .ok (.aload_n 1, 1) := by decide +kernel
theorem dl_903 : decode code 903 = .ok (.aload_n 0, 1) := by decide +kernel
theorem dl_904 : decode code 904 = .ok (.iload_n 3, 1) := by decide +kernel
theorem dl_905 : decode code 905 = .ok (.iconst 1, 1) := by decide +kernel
theorem dl_906 : decode code 906 = .ok (.iadd, 1) := by decide +kernel
theorem dl_907 : decode code 907 = .ok (.iaload, 1) := by decide +kernel
theorem dl_908 : decode code 908 = .ok (.aload_n 0, 1) := by decide +kernel
theorem dl_909 : decode code 909 = .ok (.iload_n 3, 1) := by decide +kernel
theorem dl_910 : decode code 910 = .ok (.iconst 2, 1) := by decide +kernel
theorem dl_911 : decode code 911 = .ok (.iadd, 1) := by decide +kernel
theorem dl_912 : decode code 912 = .ok (.iaload, 1) := by decide +kernel
theorem dl_913 : decode code 913 = .ok (.aload_n 0, 1) := by decide +kernel
theorem dl_914 : decode code 914 = .ok (.iload_n 3, 1) := by decide +kernel
theorem dl_915 : decode code 915 = .ok (.iconst 3, 1) := by decide +kernel
theorem dl_916 : decode code 916 = .ok (.iadd, 1) := by decide +kernel
theorem dl_917 : decode code 917 = .ok (.iaload, 1) := by decide +kernel
theorem dl_918 : decode code 918 = .ok (.invokevirtual 122, 3) := by decide +kernel
theorem dl_921 : decode code 921 = .ok (.aload_n 2, 1) := by decide +kernel
theorem dl_922 : decode code 922 = .ok (.aload_n 0, 1) := by decide +kernel
theorem dl_923 : decode code 923 = .ok (.iload_n 3, 1) := by decide +kernel
theorem dl_924 : decode code 924 = .ok (.iconst 1, 1) := by decide +kernel
theorem dl_925 : decode code 925 = .ok (.iadd, 1) := by decide +kernel
theorem dl_926 : decode code 926 = .ok (.iaload, 1) := by decide +kernel
theorem dl_927 : decode code 927 = .ok (.aload_n 0, 1) := by decide +kernel
theorem dl_928 : decode code 928 = .ok (.iload_n 3, 1) := by decide +kernel
theorem dl_929 : decode code 929 = .ok (.iconst 2, 1) := by decide +kernel
theorem dl_930 : decode code 930 = .ok (.iadd, 1) := by decide +kernel
theorem dl_931 : decode code 931 = .ok (.iaload, 1) := by decide +kernel
theorem dl_932 : decode code 932 = .ok (.aload_n 0, 1) := by decide +kernel
theorem dl_933 : decode code 933 = .ok (.iload_n 3, 1) := by decide +kernel
theorem dl_934 : decode code 934 = .ok (.iconst 3, 1) := by decide +kernel
theorem dl_935 : decode code 935 = .ok (.iadd, 1) := by decide +kernel
theorem dl_936 : decode code 936 = .ok (.iaload, 1) := by decide +kernel
theorem dl_937 : decode code 937 = .ok (.invokevirtual 125, 3) := by decide +kernel
theorem dl_940 : decode code 940 = .ok (.if_icmp .eq 311, 3) := by decide +kernel
theorem dl_943 : decode code 943 = .ok (.iconst 0, 1) := by decide +kernel
theorem dl_944 : decode code 944 = .ok (.ireturn, 1) := by decide +kernel
theorem dl_945 : decode code 945 = .ok (.aload_n 1, 1) := by decide +kernel
theorem dl_946 : decode code 946 = .ok (.aload_n 0, 1) := by decide +kernel
theorem dl_947 : decode code 947 = .ok (.iload_n 3, 1) := by decide +kernel
theorem dl_948 : decode code 948 = .ok (.iconst 1, 1) := by decide +kernel
theorem dl_949 : decode code 949 = .ok (.iadd, 1) := by decide +kernel
theorem dl_950 : decode code 950 = .ok (.iaload, 1) := by decide +kernel
theorem dl_951 : decode code 951 = .ok (.aload_n 0, 1) := by decide +kernel
theorem dl_952 : decode code 952 = .ok (.iload_n 3, 1) := by decide +kernel
theorem dl_953 : decode code 953 = .ok (.iconst 2, 1) := by decide +kernel
theorem dl_954 : decode code 954 = .ok (.iadd, 1) := by decide +kernel
theorem dl_955 : decode code 955 = .ok (.iaload, 1) := by decide +kernel
theorem dl_956 : decode code 956 = .ok (.aload_n 0, 1) := by decide +kernel
theorem dl_957 : decode code 957 = .ok (.iload_n 3, 1) := by decide +kernel
theorem dl_958 : decode code 958 = .ok (.iconst 3, 1) := by decide +kernel
theorem dl_959 : decode code 959 = .ok (.iadd, 1) := by decide +kernel
theorem dl_960 : decode code 960 = .ok (.iaload, 1) := by decide +kernel
theorem dl_961 : decode code 961 = .ok (.invokevirtual 126, 3) := by decide +kernel
theorem dl_964 : decode code 964 = .ok (.aload_n 2, 1) := by decide +kernel
theorem dl_965 : decode code 965 = .ok (.aload_n 0, 1) := by decide +kernel
theorem dl_966 : decode code 966 = .ok (.iload_n 3, 1) := by decide +kernel
theorem dl_967 : decode code 967 = .ok (.iconst 1, 1) := by decide +kernel
theorem dl_968 : decode code 968 = .ok (.iadd, 1) := by decide +kernel
theorem dl_969 : decode code 969 = .ok (.iaload, 1) := by decide +kernel
theorem dl_970 : decode code 970 = .ok (.aload_n 0, 1) := by decide +kernel
theorem dl_971 : decode code 971 = .ok (.iload_n 3, 1) := by decide +kernel
theorem dl_972 : decode code 972 = .ok (.iconst 2, 1) := by decide +kernel
theorem dl_973 : decode code 973 = .ok (.iadd, 1) := by decide +kernel
theorem dl_974 : decode code 974 = .ok (.iaload, 1) := by decide +kernel
theorem dl_975 : decode code 975 = .ok (.aload_n 0, 1) := by decide +kernel
theorem dl_976 : decode code 976 = .ok (.iload_n 3, 1) := by decide +kernel
theorem dl_977 : decode code 977 = .ok (.iconst 3, 1) := by decide +kernel
theorem dl_978 : decode code 978 = .ok (.iadd, 1) := by decide +kernel
theorem dl_979 : decode code 979 = .ok (.iaload, 1) := by decide +kernel
theorem dl_980 : decode code 980 = .ok (.invokevirtual 129, 3) := by decide +kernel
theorem dl_983 : decode code 983 = .ok (.if_icmp .eq 268, 3) := by decide +kernel
theorem dl_986 : decode code 986 = .ok (.iconst 0, 1) := by decide +kernel
theorem dl_987 : decode code 987 = .ok (.ireturn, 1) := by decide +kernel
theorem dl_988 : decode code 988 = .ok (.aload_n 1, 1) := by decide +kernel
theorem dl_989 : decode code 989 = .ok (.aload_n 0, 1) := by decide +kernel
theorem dl_990 : decode code 990 = .ok (.iload_n 3, 1) := by decide +kernel
theorem dl_991 : decode code 991 = .ok (.iconst 1, 1) := by decide +kernel
theorem dl_992 : decode code 992 = .ok (.iadd, 1) := by decide +kernel
theorem dl_993 : decode code 993 = .ok (.iaload, 1) := by decide +kernel
theorem dl_994 : decode code 994 = .ok (.aload_n 0, 1) := by decide +kernel
theorem dl_995 : decode code 995 = .ok (.iload_n 3, 1) := by decide +kernel
theorem dl_996 : decode code 996 = .ok (.iconst 2, 1) := by decide +kernel
theorem dl_997 : decode code 997 = .ok (.iadd, 1) := by decide +kernel
theorem dl_998 : decode code 998 = .ok (.iaload, 1) := by decide +kernel
theorem dl_999 : decode code 999 = .ok (.aload_n 0, 1) := by decide +kernel
theorem dl_1000 : decode code 1000 = .ok (.iload_n 3, 1) := by decide +kernel
theorem dl_1001 : decode code 1001 = .ok (.iconst 3, 1) := by decide +kernel
theorem dl_1002 : decode code 1002 = .ok (.iadd, 1) := by decide +kernel
theorem dl_1003 : decode code 1003 = .ok (.iaload, 1) := by decide +kernel
theorem dl_1004 : decode code 1004 = .ok (.invokevirtual 130, 3) := by decide +kernel
theorem dl_1007 : decode code 1007 = .ok (.aload_n 2, 1) := by decide +kernel
theorem dl_1008 : decode code 1008 = .ok (.aload_n 0, 1) := by decide +kernel
theorem dl_1009 : decode code 1009 = .ok (.iload_n 3, 1) := by decide +kernel
theorem dl_1010 : decode code 1010 = .ok (.iconst 1, 1) := by decide +kernel
theorem dl_1011 : decode code 1011 = .ok (.iadd, 1) := by decide +kernel
theorem dl_1012 : decode code 1012 = .ok (.iaload, 1) := by decide +kernel
theorem dl_1013 : decode code 1013 = .ok (.aload_n 0, 1) := by decide +kernel
theorem dl_1014 : decode code 1014 = .ok (.iload_n 3, 1) := by decide +kernel
theorem dl_1015 : decode code 1015 = .ok (.iconst 2, 1) := by decide +kernel
theorem dl_1016 : decode code 1016 = .ok (.iadd, 1) := by decide +kernel
theorem dl_1017 : decode code 1017 = .ok (.iaload, 1) := by decide +kernel
theorem dl_1018 : decode code 1018 = .ok (.aload_n 0, 1) := by decide +kernel
theorem dl_1019 : decode code 1019 = .ok (.iload_n 3, 1) := by decide +kernel
theorem dl_1020 : decode code 1020 = .ok (.iconst 3, 1) := by decide +kernel
theorem dl_1021 : decode code 1021 = .ok (.iadd, 1) := by decide +kernel
theorem dl_1022 : decode code 1022 = .ok (.iaload, 1) := by decide +kernel
theorem dl_1023 : decode code 1023 = .ok (.invokevirtual 133, 3) := by decide +kernel
theorem dl_1026 : decode code 1026 = .ok (.if_icmp .eq 225, 3) := by decide +kernel
theorem dl_1029 : decode code 1029 = .ok (.iconst 0, 1) := by decide +kernel
theorem dl_1030 : decode code 1030 = .ok (.ireturn, 1) := by decide +kernel
theorem dl_1031 : decode code 1031 = .ok (.aload_n 1, 1) := by decide +kernel
theorem dl_1032 : decode code 1032 = .ok (.aload_n 0, 1) := by decide +kernel
theorem dl_1033 : decode code 1033 = .ok (.iload_n 3, 1) := by decide +kernel
theorem dl_1034 : decode code 1034 = .ok (.iconst 1, 1) := by decide +kernel
theorem dl_1035 : decode code 1035 = .ok (.iadd, 1) := by decide +kernel
theorem dl_1036 : decode code 1036 = .ok (.iaload, 1) := by decide +kernel
theorem dl_1037 : decode code 1037 = .ok (.invokevirtual 134, 3) := by decide +kernel
theorem dl_1040 : decode code 1040 = .ok (.aload_n 2, 1) := by decide +kernel
theorem dl_1041 : decode code 1041 = .ok (.aload_n 0, 1) := by decide +kernel
theorem dl_1042 : decode code 1042 = .ok (.iload_n 3, 1) := by decide +kernel
theorem dl_1043 : decode code 1043 = .ok (.iconst 1, 1) := by decide +kernel
theorem dl_1044 : decode code 1044 = .ok (.iadd, 1) := by decide +kernel
theorem dl_1045 : decode code 1045 = .ok (.iaload, 1) := by decide +kernel
theorem dl_1046 : decode code 1046 = .ok (.invokevirtual 137, 3) := by decide +kernel
theorem dl_1049 : decode code 1049 = .ok (.if_icmp .eq 202, 3) := by decide +kernel
theorem dl_1052 : decode code 1052 = .ok (.iconst 0, 1) := by decide +kernel
theorem dl_1053 : decode code 1053 = .ok (.ireturn, 1) := by decide +kernel
theorem dl_1054 : decode code 1054 = .ok (.aload_n 1, 1) := by decide +kernel
theorem dl_1055 : decode code 1055 = .ok (.invokevirtual 138, 3) := by decide +kernel
theorem dl_1058 : decode code 1058 = .ok (.aload_n 2, 1) := by decide +kernel
theorem dl_1059 : decode code 1059 = .ok (.invokevirtual 141, 3) := by decide +kernel
theorem dl_1062 : decode code 1062 = .ok (.if_icmp .eq 189, 3) := by decide +kernel
theorem dl_1065 : decode code 1065 = .ok (.iconst 0, 1) := by decide +kernel
theorem dl_1066 : decode code 1066 = .ok (.ireturn, 1) := by decide +kernel
theorem dl_1067 : decode code 1067 = .ok (.aload_n 1, 1) := by decide +kernel
theorem dl_1068 : decode code 1068 = .ok (.aload_n 0, 1) := by decide +kernel
theorem dl_1069 : decode code 1069 = .ok (.iload_n 3, 1) := by decide +kernel
theorem dl_1070 : decode code 1070 = .ok (.iconst 1, 1) := by decide +kernel
theorem dl_1071 : decode code 1071 = .ok (.iadd, 1) := by decide +kernel
theorem dl_1072 : decode code 1072 = .ok (.iaload, 1) := by decide +kernel
theorem dl_1073 : decode code 1073 = .ok (.aload_n 0, 1) := by decide +kernel
theorem dl_1074 : decode code 1074 = .ok (.iload_n 3, 1) := by decide +kernel
theorem dl_1075 : decode code 1075 = .ok (.iconst 2, 1) := by decide +kernel
theorem dl_1076 : decode code 1076 = .ok (.iadd, 1) := by decide +kernel
theorem dl_1077 : decode code 1077 = .ok (.iaload, 1) := by decide +kernel
theorem dl_1078 : decode code 1078 = .ok (.invokevirtual 142, 3) := by decide +kernel
theorem dl_1081 : decode code 1081 = .ok (.aload_n 2, 1) := by decide +kernel
theorem dl_1082 : decode code 1082 = .ok (.aload_n 0, 1) := by decide +kernel
theorem dl_1083 : decode code 1083 = .ok (.iload_n 3, 1) := by decide +kernel
theorem dl_1084 : decode code 1084 = .ok (.iconst 1, 1) := by decide +kernel
theorem dl_1085 : decode code 1085 = .ok (.iadd, 1) := by decide +kernel
theorem dl_1086 : decode code 1086 = .ok (.iaload, 1) := by decide +kernel
theorem dl_1087 : decode code 1087 = .ok (.aload_n 0, 1) := by decide +kernel
theorem dl_1088 : decode code 1088 = .ok (.iload_n 3, 1) := by decide +kernel
theorem dl_1089 : decode code 1089 = .ok (.iconst 2, 1) := by decide +kernel
theorem dl_1090 : decode code 1090 = .ok (.iadd, 1) := by decide +kernel
theorem dl_1091 : decode code 1091 = .ok (.iaload, 1) := by decide +kernel
theorem dl_1092 : decode code 1092 = .ok (.invokevirtual 145, 3) := by decide +kernel
theorem dl_1095 : decode code 1095 = .ok (.if_icmp .eq 156, 3) := by decide +kernel
theorem dl_1098 : decode code 1098 = .ok (.iconst 0, 1) := by decide +kernel
theorem dl_1099 : decode code 1099 = .ok (.ireturn, 1) := by decide +kernel
theorem dl_1100 : decode code 1100 = .ok (.aload_n 1, 1) := by decide +kernel
theorem dl_1101 : decode code 1101 = .ok (.invokevirtual 146, 3) := by decide +kernel
theorem dl_1104 : decode code 1104 = .ok (.aload_n 2, 1) := by decide +kernel
theorem dl_1105 : decode code 1105 = .ok (.invokevirtual 149, 3) := by decide +kernel
theorem dl_1108 : decode code 1108 = .ok (.if_icmp .eq 143, 3) := by decide +kernel
theorem dl_1111 : decode code 1111 = .ok (.iconst 0, 1) := by decide +kernel
theorem dl_1112 : decode code 1112 = .ok (.ireturn, 1) := by decide +kernel
theorem dl_1113 : decode code 1113 = .ok (.aload_n 1, 1) := by decide +kernel
theorem dl_1114 : decode code 1114 = .ok (.invokevirtual 150, 3) := by decide +kernel
theorem dl_1117 : decode code 1117 = .ok (.aload_n 2, 1) := by decide +kernel
theorem dl_1118 : decode code 1118 = .ok (.invokevirtual 153, 3) := by decide +kernel
theorem dl_1121 : decode code 1121 = .ok (.if_icmp .eq 130, 3) := by decide +kernel
theorem dl_1124 : decode code 1124 = .ok (.iconst 0, 1) := by decide +kernel
theorem dl_1125 : decode code 1125 = .ok (.ireturn, 1) := by decide +kernel
theorem dl_1126 : decode code 1126 = .ok (.aload_n 1, 1) := by decide +kernel
theorem dl_1127 : decode code 1127 = .ok (.aload_n 0, 1) := by decide +kernel
theorem dl_1128 : decode code 1128 = .ok (.iload_n 3, 1) := by decide +kernel
theorem dl_1129 : decode code 1129 = .ok (.iconst 1, 1) := by decide +kernel
theorem dl_1130 : decode code 1130 = .ok (.iadd, 1) := by decide +kernel
theorem dl_1131 : decode code 1131 = .ok (.iaload, 1) := by decide +kernel
theorem dl_1132 : decode code 1132 = .ok (.invokevirtual 154, 3) := by decide +kernel
theorem dl_1135 : decode code 1135 = .ok (.aload_n 2, 1) := by decide +kernel
theorem dl_1136 : decode code 1136 = .ok (.aload_n 0, 1) := by decide +kernel
theorem dl_1137 : decode code 1137 = .ok (.iload_n 3, 1) := by decide +kernel
theorem dl_1138 : decode code 1138 = .ok (.iconst 1, 1) := by decide +kernel
theorem dl_1139 : decode code 1139 = .ok (.iadd, 1) := by decide +kernel
theorem dl_1140 : decode code 1140 = .ok (.iaload, 1) := by decide +kernel
theorem dl_1141 : decode code 1141 = .ok (.invokevirtual 157, 3) := by decide +kernel
theorem dl_1144 : decode code 1144 = .ok (.if_icmp .eq 107, 3) := by decide +kernel
theorem dl_1147 : decode code 1147 = .ok (.iconst 0, 1) := by decide +kernel
theorem dl_1148 : decode code 1148 = .ok (.ireturn, 1) := by decide +kernel
theorem dl_1149 : decode code 1149 = .ok (.aload_n 1, 1) := by decide +kernel
theorem dl_1150 : decode code 1150 = .ok (.aload_n 0, 1) := by decide +kernel
theorem dl_1151 : decode code 1151 = .ok (.iload_n 3, 1) := by decide +kernel
theorem dl_1152 : decode code 1152 = .ok (.iconst 1, 1) := by decide +kernel
theorem dl_1153 : decode code 1153 = .ok (.iadd, 1) := by decide +kernel
theorem dl_1154 : decode code 1154 = .ok (.iaload, 1) := by decide +kernel
theorem dl_1155 : decode code 1155 = .ok (.aload_n 0, 1) := by decide +kernel
theorem dl_1156 : decode code 1156 = .ok (.iload_n 3, 1) := by decide +kernel
theorem dl_1157 : decode code 1157 = .ok (.iconst 2, 1) := by decide +kernel
theorem dl_1158 : decode code 1158 = .ok (.iadd, 1) := by decide +kernel
theorem dl_1159 : decode code 1159 = .ok (.iaload, 1) := by decide +kernel
theorem dl_1160 : decode code 1160 = .ok (.invokevirtual 158, 3) := by decide +kernel
theorem dl_1163 : decode code 1163 = .ok (.aload_n 2, 1) := by decide +kernel
theorem dl_1164 : decode code 1164 = .ok (.aload_n 0, 1) := by decide +kernel
theorem dl_1165 : decode code 1165 = .ok (.iload_n 3, 1) := by decide +kernel
theorem dl_1166 : decode code 1166 = .ok (.iconst 1, 1) := by decide +kernel
theorem dl_1167 : decode code 1167 = .ok (.iadd, 1) := by decide +kernel
theorem dl_1168 : decode code 1168 = .ok (.iaload, 1) := by decide +kernel
theorem dl_1169 : decode code 1169 = .ok (.aload_n 0, 1) := by decide +kernel
theorem dl_1170 : decode code 1170 = .ok (.iload_n 3, 1) := by decide +kernel
theorem dl_1171 : decode code 1171 = .ok (.iconst 2, 1) := by decide +kernel
theorem dl_1172 : decode code 1172 = .ok (.iadd, 1) := by decide +kernel
theorem dl_1173 : decode code 1173 = .ok (.iaload, 1) := by decide +kernel
theorem dl_1174 : decode code 1174 = .ok (.invokevirtual 161, 3) := by decide +kernel
theorem dl_1177 : decode code 1177 = .ok (.if_icmp .eq 74, 3) := by decide +kernel
theorem dl_1180 : decode code 1180 = .ok (.iconst 0, 1) := by decide +kernel
theorem dl_1181 : decode code 1181 = .ok (.ireturn, 1) := by decide +kernel
theorem dl_1182 : decode code 1182 = .ok (.aload_n 1, 1) := by decide +kernel
theorem dl_1183 : decode code 1183 = .ok (.aload_n 0, 1) := by decide +kernel
theorem dl_1184 : decode code 1184 = .ok (.iload_n 3, 1) := by decide +kernel
theorem dl_1185 : decode code 1185 = .ok (.iconst 1, 1) := by decide +kernel
theorem dl_1186 : decode code 1186 = .ok (.iadd, 1) := by decide +kernel
theorem dl_1187 : decode code 1187 = .ok (.iaload, 1) := by decide +kernel
theorem dl_1188 : decode code 1188 = .ok (.invokevirtual 162, 3) := by decide +kernel
theorem dl_1191 : decode code 1191 = .ok (.aload_n 2, 1) := by decide +kernel
theorem dl_1192 : decode code 1192 = .ok (.aload_n 0, 1) := by decide +kernel
theorem dl_1193 : decode code 1193 = .ok (.iload_n 3, 1) := by decide +kernel
theorem dl_1194 : decode code 1194 = .ok (.iconst 1, 1) := by decide +kernel
theorem dl_1195 : decode code 1195 = .ok (.iadd, 1) := by decide +kernel
theorem dl_1196 : decode code 1196 = .ok (.iaload, 1) := by decide +kernel
theorem dl_1197 : decode code 1197 = .ok (.invokevirtual 165, 3) := by decide +kernel
theorem dl_1200 : decode code 1200 = .ok (.if_icmp .eq 51, 3) := by decide +kernel
theorem dl_1203 : decode code 1203 = .ok (.iconst 0, 1) := by decide +kernel
theorem dl_1204 : decode code 1204 = .ok (.ireturn, 1) := by decide +kernel
theorem dl_1205 : decode code 1205 = .ok (.aload_n 1, 1) := by decide +kernel
theorem dl_1206 : decode code 1206 = .ok (.aload_n 0, 1) := by decide +kernel
theorem dl_1207 : decode code 1207 = .ok (.iload_n 3, 1) := by decide +kernel
theorem dl_1208 : decode code 1208 = .ok (.iconst 1, 1) := by decide +kernel
theorem dl_1209 : decode code 1209 = .ok (.iadd, 1) := by decide +kernel
theorem dl_1210 : decode code 1210 = .ok (.iaload, 1) := by decide +kernel
theorem dl_1211 : decode code 1211 = .ok (.invokevirtual 166, 3) := by decide +kernel
theorem dl_1214 : decode code 1214 = .ok (.aload_n 2, 1) := by decide +kernel
theorem dl_1215 : decode code 1215 = .ok (.aload_n 0, 1) := by decide +kernel
theorem dl_1216 : decode code 1216 = .ok (.iload_n 3, 1) := by decide +kernel
theorem dl_1217 : decode code 1217 = .ok (.iconst 1, 1) := by decide +kernel
theorem dl_1218 : decode code 1218 = .ok (.iadd, 1) := by decide +kernel
theorem dl_1219 : decode code 1219 = .ok (.iaload, 1) := by decide +kernel
theorem dl_1220 : decode code 1220 = .ok (.invokevirtual 169, 3) := by decide +kernel
theorem dl_1223 : decode code 1223 = .ok (.if_icmp .eq 28, 3) := by decide +kernel
theorem dl_1226 : decode code 1226 = .ok (.iconst 0, 1) := by decide +kernel
theorem dl_1227 : decode code 1227 = .ok (.ireturn, 1) := by decide +kernel
theorem dl_1228 : decode code 1228 = .ok (.aload_n 1, 1) := by decide +kernel
theorem dl_1229 : decode code 1229 = .ok (.aload_n 0, 1) := by decide +kernel
theorem dl_1230 : decode code 1230 = .ok (.iload_n 3, 1) := by decide +kernel
theorem dl_1231 : decode code 1231 = .ok (.iconst 1, 1) := by decide +kernel
theorem dl_1232 : decode code 1232 = .ok (.iadd, 1) := by decide +kernel
theorem dl_1233 : decode code 1233 = .ok (.iaload, 1) := by decide +kernel
theorem dl_1234 : decode code 1234 = .ok (.invokevirtual 170, 3) := by decide +kernel
theorem dl_1237 : decode code 1237 = .ok (.aload_n 2, 1) := by decide +kernel
theorem dl_1238 : decode code 1238 = .ok (.aload_n 0, 1) := by decide +kernel
theorem dl_1239 : decode code 1239 = .ok (.iload_n 3, 1) := by decide +kernel
theorem dl_1240 : decode code 1240 = .ok (.iconst 1, 1) := by decide +kernel
theorem dl_1241 : decode code 1241 = .ok (.iadd, 1) := by decide +kernel
theorem dl_1242 : decode code 1242 = .ok (.iaload, 1) := by decide +kernel
theorem dl_1243 : decode code 1243 = .ok (.invokevirtual 173, 3) := by decide +kernel
theorem dl_1246 : decode code 1246 = .ok (.if_icmp .eq 5, 3) := by decide +kernel
theorem dl_1249 : decode code 1249 = .ok (.iconst 0, 1) := by decide +kernel
theorem dl_1250 : decode code 1250 = .ok (.ireturn, 1) := by decide +kernel
theorem dl_1251 : decode code 1251 = .ok (.iinc 3 6, 3) := by decide +kernel
theorem dl_1254 : decode code 1254 = .ok (.goto (-1236), 3) := by decide +kernel
theorem dl_1257 : decode code 1257 = .ok (.iconst 1, 1) := by decide +kernel
theorem dl_1258 : decode code 1258 = .ok (.ireturn, 1) := by decide +kernel
