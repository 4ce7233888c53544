/-! the law's own code -/
theorem dL_0 : decode code 0 = .ok (.new 7, 3) := by decide +kernel
theorem dL_3 : decode code 3 = .ok (.dup, 1) := by decide +kernel
theorem dL_4 : decode code 4 = .ok (.invokespecial 9, 3) := by decide +kernel
theorem dL_7 : decode code 7 = .ok (.astore_n 1, 1) := by decide +kernel
theorem dL_8 : decode code 8 = .ok (.new 10, 3) := by decide +kernel
theorem dL_11 : decode code 11 = .ok (.dup, 1) := by decide +kernel
theorem dL_12 : decode code 12 = .ok (.invokespecial 12, 3) := by decide +kernel
theorem dL_15 : decode code 15 = .ok (.astore_n 2, 1) := by decide +kernel
theorem dL_16 : decode code 16 = .ok (.iconst 0, 1) := by decide +kernel
theorem dL_17 : decode code 17 = .ok (.istore_n 3, 1) := by decide +kernel
theorem dL_18 : decode code 18 = .ok (.iload_n 3, 1) := by decide +kernel
theorem dL_19 : decode code 19 = .ok (.aload_n 0, 1) := by decide +kernel
theorem dL_20 : decode code 20 = .ok (.arraylength, 1) := by decide +kernel
theorem dL_21 : decode code 21 = .ok (.bipush 6, 2) := by decide +kernel
theorem dL_23 : decode code 23 = .ok (.isub, 1) := by decide +kernel
theorem dL_24 : decode code 24 = .ok (.if_icmp .gt 1284, 3) := by decide +kernel
theorem dL_27 : decode code 27 = .ok (.aload_n 0, 1) := by decide +kernel
theorem dL_28 : decode code 28 = .ok (.iload_n 3, 1) := by decide +kernel
theorem dL_29 : decode code 29 = .ok (.iaload, 1) := by decide +kernel
theorem dL_30 : decode code 30 = .ok (.bipush 63, 2) := by decide +kernel
theorem dL_32 : decode code 32 = .ok (.iand, 1) := by decide +kernel
theorem dL_33 : decode code 33 = .ok (.tableswitch 1269 0 41 #[183, 246, 269, 282, 305, 338, 371, 404, 437, 450, 463, 476, 489, 502, 525, 538, 551, 564, 577, 590, 613, 636, 659, 672, 685, 718, 761, 794, 827, 880, 913, 936, 989, 1012, 1035, 1058, 1081, 1114, 1167, 1200, 1223, 1246], 183) := by decide +kernel
theorem dL_216 : decode code 216 = .ok (.aload_n 1, 1) := by decide +kernel
theorem dL_217 : decode code 217 = .ok (.aload_n 0, 1) := by decide +kernel
theorem dL_218 : decode code 218 = .ok (.iload_n 3, 1) := by decide +kernel
theorem dL_219 : decode code 219 = .ok (.iconst 1, 1) := by decide +kernel
theorem dL_220 : decode code 220 = .ok (.iadd, 1) := by decide +kernel
theorem dL_221 : decode code 221 = .ok (.iaload, 1) := by decide +kernel
theorem dL_222 : decode code 222 = .ok (.aload_n 0, 1) := by decide +kernel
theorem dL_223 : decode code 223 = .ok (.iload_n 3, 1) := by decide +kernel
theorem dL_224 : decode code 224 = .ok (.iconst 2, 1) := by decide +kernel
theorem dL_225 : decode code 225 = .ok (.iadd, 1) := by decide +kernel
theorem dL_226 : decode code 226 = .ok (.iaload, 1) := by decide +kernel
theorem dL_227 : decode code 227 = .ok (.aload_n 0, 1) := by decide +kernel
theorem dL_228 : decode code 228 = .ok (.iload_n 3, 1) := by decide +kernel
theorem dL_229 : decode code 229 = .ok (.iconst 3, 1) := by decide +kernel
theorem dL_230 : decode code 230 = .ok (.iadd, 1) := by decide +kernel
theorem dL_231 : decode code 231 = .ok (.iaload, 1) := by decide +kernel
theorem dL_232 : decode code 232 = .ok (.aload_n 0, 1) := by decide +kernel
theorem dL_233 : decode code 233 = .ok (.iload_n 3, 1) := by decide +kernel
theorem dL_234 : decode code 234 = .ok (.iconst 4, 1) := by decide +kernel
theorem dL_235 : decode code 235 = .ok (.iadd, 1) := by decide +kernel
theorem dL_236 : decode code 236 = .ok (.iaload, 1) := by decide +kernel
theorem dL_237 : decode code 237 = .ok (.aload_n 0, 1) := by decide +kernel
theorem dL_238 : decode code 238 = .ok (.iload_n 3, 1) := by decide +kernel
theorem dL_239 : decode code 239 = .ok (.iconst 5, 1) := by decide +kernel
theorem dL_240 : decode code 240 = .ok (.iadd, 1) := by decide +kernel
theorem dL_241 : decode code 241 = .ok (.iaload, 1) := by decide +kernel
theorem dL_242 : decode code 242 = .ok (.invokevirtual 13, 3) := by decide +kernel
theorem dL_245 : decode code 245 = .ok (.aload_n 2, 1) := by decide +kernel
theorem dL_246 : decode code 246 = .ok (.aload_n 0, 1) := by decide +kernel
theorem dL_247 : decode code 247 = .ok (.iload_n 3, 1) := by decide +kernel
theorem dL_248 : decode code 248 = .ok (.iconst 1, 1) := by decide +kernel
theorem dL_249 : decode code 249 = .ok (.iadd, 1) := by decide +kernel
theorem dL_250 : decode code 250 = .ok (.iaload, 1) := by decide +kernel
theorem dL_251 : decode code 251 = .ok (.aload_n 0, 1) := by decide +kernel
theorem dL_252 : decode code 252 = .ok (.iload_n 3, 1) := by decide +kernel
theorem dL_253 : decode code 253 = .ok (.iconst 2, 1) := by decide +kernel
theorem dL_254 : decode code 254 = .ok (.iadd, 1) := by decide +kernel
theorem dL_255 : decode code 255 = .ok (.iaload, 1) := by decide +kernel
theorem dL_256 : decode code 256 = .ok (.aload_n 0, 1) := by decide +kernel
theorem dL_257 : decode code 257 = .ok (.iload_n 3, 1) := by decide +kernel
theorem dL_258 : decode code 258 = .ok (.iconst 3, 1) := by decide +kernel
theorem dL_259 : decode code 259 = .ok (.iadd, 1) := by decide +kernel
theorem dL_260 : decode code 260 = .ok (.iaload, 1) := by decide +kernel
theorem dL_261 : decode code 261 = .ok (.aload_n 0, 1) := by decide +kernel
theorem dL_262 : decode code 262 = .ok (.iload_n 3, 1) := by decide +kernel
theorem dL_263 : decode code 263 = .ok (.iconst 4, 1) := by decide +kernel
theorem dL_264 : decode code 264 = .ok (.iadd, 1) := by decide +kernel
theorem dL_265 : decode code 265 = .ok (.iaload, 1) := by decide +kernel
theorem dL_266 : decode code 266 = .ok (.aload_n 0, 1) := by decide +kernel
theorem dL_267 : decode code 267 = .ok (.iload_n 3, 1) := by decide +kernel
theorem dL_268 : decode code 268 = .ok (.iconst 5, 1) := by decide +kernel
theorem dL_269 : decode code 269 = .ok (.iadd, 1) := by decide +kernel
theorem dL_270 : decode code 270 = .ok (.iaload, 1) := by decide +kernel
theorem dL_271 : decode code 271 = .ok (.invokevirtual 17, 3) := by decide +kernel
theorem dL_274 : decode code 274 = .ok (.if_icmp .eq 1028, 3) := by decide +kernel
theorem dL_277 : decode code 277 = .ok (.iconst 0, 1) := by decide +kernel
theorem dL_278 : decode code 278 = .ok (.ireturn, 1) := by decide +kernel
theorem dL_279 : decode code 279 = .ok (.aload_n 1, 1) := by decide +kernel
theorem dL_280 : decode code 280 = .ok (.aload_n 0, 1) := by decide +kernel
theorem dL_281 : decode code 281 = .ok (.iload_n 3, 1) := by decide +kernel
theorem dL_282 : decode code 282 = .ok (.iconst 1, 1) := by decide +kernel
theorem dL_283 : decode code 283 = .ok (.iadd, 1) := by decide +kernel
theorem dL_284 : decode code 284 = .ok (.iaload, 1) := by decide +kernel
theorem dL_285 : decode code 285 = .ok (.invokevirtual 18, 3) := by decide +kernel
theorem dL_288 : decode code 288 = .ok (.aload_n 2, 1) := by decide +kernel
theorem dL_289 : decode code 289 = .ok (.aload_n 0, 1) := by decide +kernel
theorem dL_290 : decode code 290 = .ok (.iload_n 3, 1) := by decide +kernel
theorem dL_291 : decode code 291 = .ok (.iconst 1, 1) := by decide +kernel
theorem dL_292 : decode code 292 = .ok (.iadd, 1) := by decide +kernel
theorem dL_293 : decode code 293 = .ok (.iaload, 1) := by decide +kernel
theorem dL_294 : decode code 294 = .ok (.invokevirtual 22, 3) := by decide +kernel
theorem dL_297 : decode code 297 = .ok (.if_icmp .eq 1005, 3) := by decide +kernel
theorem dL_300 : decode code 300 = .ok (.iconst 0, 1) := by decide +kernel
theorem dL_301 : decode code 301 = .ok (.ireturn, 1) := by decide +kernel
theorem dL_302 : decode code 302 = .ok (.aload_n 1, 1) := by decide +kernel
theorem dL_303 : decode code 303 = .ok (.invokevirtual 23, 3) := by decide +kernel
theorem dL_306 : decode code 306 = .ok (.aload_n 2, 1) := by decide +kernel
theorem dL_307 : decode code 307 = .ok (.invokevirtual 27, 3) := by decide +kernel
theorem dL_310 : decode code 310 = .ok (.if_icmp .eq 992, 3) := by decide +kernel
theorem dL_313 : decode code 313 = .ok (.iconst 0, 1) := by decide +kernel
theorem dL_314 : decode code 314 = .ok (.ireturn, 1) := by decide +kernel
theorem dL_315 : decode code 315 = .ok (.aload_n 1, 1) := by decide +kernel
theorem dL_316 : decode code 316 = .ok (.aload_n 0, 1) := by decide +kernel
theorem dL_317 : decode code 317 = .ok (.iload_n 3, 1) := by decide +kernel
theorem dL_318 : decode code 318 = .ok (.iconst 1, 1) := by decide +kernel
theorem dL_319 : decode code 319 = .ok (.iadd, 1) := by decide +kernel
theorem dL_320 : decode code 320 = .ok (.iaload, 1) := by decide +kernel
theorem dL_321 : decode code 321 = .ok (.invokevirtual 28, 3) := by decide +kernel
theorem dL_324 : decode code 324 = .ok (.aload_n 2, 1) := by decide +kernel
theorem dL_325 : decode code 325 = .ok (.aload_n 0, 1) := by decide +kernel
theorem dL_326 : decode code 326 = .ok (.iload_n 3, 1) := by decide +kernel
theorem dL_327 : decode code 327 = .ok (.iconst 1, 1) := by decide +kernel
theorem dL_328 : decode code 328 = .ok (.iadd, 1) := by decide +kernel
theorem dL_329 : decode code 329 = .ok (.iaload, 1) := by decide +kernel
theorem dL_330 : decode code 330 = .ok (.invokevirtual 31, 3) := by decide +kernel
theorem dL_333 : decode code 333 = .ok (.if_icmp .eq 969, 3) := by decide +kernel
theorem dL_336 : decode code 336 = .ok (.iconst 0, 1) := by decide +kernel
theorem dL_337 : decode code 337 = .ok (.ireturn, 1) := by decide +kernel
theorem dL_338 : decode code 338 = .ok (.aload_n 1, 1) := by decide +kernel
theorem dL_339 : decode code 339 = .ok (.aload_n 0, 1) := by decide +kernel
theorem dL_340 : decode code 340 = .ok (.iload_n 3, 1) := by decide +kernel
theorem dL_341 : decode code 341 = .ok (.iconst 1, 1) := by decide +kernel
theorem dL_342 : decode code 342 = .ok (.iadd, 1) := by decide +kernel
theorem dL_343 : decode code 343 = .ok (.iaload, 1) := by decide +kernel
theorem dL_344 : decode code 344 = .ok (.aload_n 0, 1) := by decide +kernel
theorem dL_345 : decode code 345 = .ok (.iload_n 3, 1) := by decide +kernel
theorem dL_346 : decode code 346 = .ok (.iconst 2, 1) := by decide +kernel
theorem dL_347 : decode code 347 = .ok (.iadd, 1) := by decide +kernel
theorem dL_348 : decode code 348 = .ok (.iaload, 1) := by decide +kernel
theorem dL_349 : decode code 349 = .ok (.invokevirtual 32, 3) := by decide +kernel
theorem dL_352 : decode code 352 = .ok (.aload_n 2, 1) := by decide +kernel
theorem dL_353 : decode code 353 = .ok (.aload_n 0, 1) := by decide +kernel
theorem dL_354 : decode code 354 = .ok (.iload_n 3, 1) := by decide +kernel
theorem dL_355 : decode code 355 = .ok (.iconst 1, 1) := by decide +kernel
theorem dL_356 : decode code 356 = .ok (.iadd, 1) := by decide +kernel
theorem dL_357 : decode code 357 = .ok (.iaload, 1) := by decide +kernel
theorem dL_358 : decode code 358 = .ok (.aload_n 0, 1) := by decide +kernel
theorem dL_359 : decode code 359 = .ok (.iload_n 3, 1) := by decide +kernel
theorem dL_360 : decode code 360 = .ok (.iconst 2, 1) := by decide +kernel
theorem dL_361 : decode code 361 = .ok (.iadd, 1) := by decide +kernel
theorem dL_362 : decode code 362 = .ok (.iaload, 1) := by decide +kernel
theorem dL_363 : decode code 363 = .ok (.invokevirtual 36, 3) := by decide +kernel
theorem dL_366 : decode code 366 = .ok (.if_icmp .eq 936, 3) := by decide +kernel
theorem dL_369 : decode code 369 = .ok (.iconst 0, 1) := by decide +kernel
theorem dL_370 : decode code 370 = .ok (.ireturn, 1) := by decide +kernel
theorem dL_371 : decode code 371 = .ok (.aload_n 1, 1) := by decide +kernel
theorem dL_372 : decode code 372 = .ok (.aload_n 0, 1) := by decide +kernel
theorem dL_373 : decode code 373 = .ok (.iload_n 3, 1) := by decide +kernel
theorem dL_374 : decode code 374 = .ok (.iconst 1, 1) := by decide +kernel
theorem dL_375 : decode code 375 = .ok (.iadd, 1) := by decide +kernel
theorem dL_376 : decode code 376 = .ok (.iaload, 1) := by decide +kernel
theorem dL_377 : decode code 377 = .ok (.aload_n 0, 1) := by decide +kernel
theorem dL_378 : decode code 378 = .ok (.iload_n 3, 1) := by decide +kernel
theorem dL_379 : decode code 379 = .ok (.iconst 2, 1) := by decide +kernel
theorem dL_380 : decode code 380 = .ok (.iadd, 1) := by decide +kernel
theorem dL_381 : decode code 381 = .ok (.iaload, 1) := by decide +kernel
theorem dL_382 : decode code 382 = .ok (.invokevirtual 37, 3) := by decide +kernel
theorem dL_385 : decode code 385 = .ok (.aload_n 2, 1) := by decide +kernel
theorem dL_386 : decode code 386 = .ok (.aload_n 0, 1) := by decide +kernel
theorem dL_387 : decode code 387 = .ok (.iload_n 3, 1) := by decide +kernel
theorem dL_388 : decode code 388 = .ok (.iconst 1, 1) := by decide +kernel
theorem dL_389 : decode code 389 = .ok (.iadd, 1) := by decide +kernel
theorem dL_390 : decode code 390 = .ok (.iaload, 1) := by decide +kernel
theorem dL_391 : decode code 391 = .ok (.aload_n 0, 1) := by decide +kernel
theorem dL_392 : decode code 392 = .ok (.iload_n 3, 1) := by decide +kernel
theorem dL_393 : decode code 393 = .ok (.iconst 2, 1) := by decide +kernel
theorem dL_394 : decode code 394 = .ok (.iadd, 1) := by decide +kernel
theorem dL_395 : decode code 395 = .ok (.iaload, 1) := by decide +kernel
theorem dL_396 : decode code 396 = .ok (.invokevirtual 40, 3) := by decide +kernel
theorem dL_399 : decode code 399 = .ok (.if_icmp .eq 903, 3) := by decide +kernel
theorem dL_402 : decode code 402 = .ok (.iconst 0, 1) := by decide +kernel
theorem dL_403 : decode code 403 = .ok (.ireturn, 1) := by decide +kernel
theorem dL_404 : decode code 404 = .ok (.aload_n 1, 1) := by decide +kernel
theorem dL_405 : decode code 405 = .ok (.aload_n 0, 1) := by decide +kernel
theorem dL_406 : decode code 406 = .ok (.iload_n 3, 1) := by decide +kernel
theorem dL_407 : decode code 407 = .ok (.iconst 1, 1) := by decide +kernel
theorem dL_408 : decode code 408 = .ok (.iadd, 1) := by decide +kernel
theorem dL_409 : decode code 409 = .ok (.iaload, 1) := by decide +kernel
theorem dL_410 : decode code 410 = .ok (.aload_n 0, 1) := by decide +kernel
theorem dL_411 : decode code 411 = .ok (.iload_n 3, 1) := by decide +kernel
theorem dL_412 : decode code 412 = .ok (.iconst 2, 1) := by decide +kernel
theorem dL_413 : decode code 413 = .ok (.iadd, 1) := by decide +kernel
theorem dL_414 : decode code 414 = .ok (.iaload, 1) := by decide +kernel
theorem dL_415 : decode code 415 = .ok (.invokevirtual 41, 3) := by decide +kernel
theorem dL_418 : decode code 418 = .ok (.aload_n 2, 1) := by decide +kernel
theorem dL_419 : decode code 419 = .ok (.aload_n 0, 1) := by decide +kernel
theorem dL_420 : decode code 420 = .ok (.iload_n 3, 1) := by decide +kernel
theorem dL_421 : decode code 421 = .ok (.iconst 1, 1) := by decide +kernel
theorem dL_422 : decode code 422 = .ok (.iadd, 1) := by decide +kernel
theorem dL_423 : decode code 423 = .ok (.iaload, 1) := by decide +kernel
theorem dL_424 : decode code 424 = .ok (.aload_n 0, 1) := by decide +kernel
theorem dL_425 : decode code 425 = .ok (.iload_n 3, 1) := by decide +kernel
theorem dL_426 : decode code 426 = .ok (.iconst 2, 1) := by decide +kernel
theorem dL_427 : decode code 427 = .ok (.iadd, 1) := by decide +kernel
theorem dL_428 : decode code 428 = .ok (.iaload, 1) := by decide +kernel
theorem dL_429 : decode code 429 = .ok (.invokevirtual 44, 3) := by decide +kernel
theorem dL_432 : decode code 432 = .ok (.if_icmp .eq 870, 3) := by decide +kernel
theorem dL_435 : decode code 435 = .ok (.iconst 0, 1) := by decide +kernel
theorem dL_436 : decode code 436 = .ok (.ireturn, 1) := by decide +kernel
theorem dL_437 : decode code 437 = .ok (.aload_n 1, 1) := by decide +kernel
theorem dL_438 : decode code 438 = .ok (.aload_n 0, 1) := by decide +kernel
theorem dL_439 : decode code 439 = .ok (.iload_n 3, 1) := by decide +kernel
theorem dL_440 : decode code 440 = .ok (.iconst 1, 1) := by decide +kernel
theorem dL_441 : decode code 441 = .ok (.iadd, 1) := by decide +kernel
theorem dL_442 : decode code 442 = .ok (.iaload, 1) := by decide +kernel
theorem dL_443 : decode code 443 = .ok (.aload_n 0, 1) := by decide +kernel
theorem dL_444 : decode code 444 = .ok (.iload_n 3, 1) := by decide +kernel
theorem dL_445 : decode code 445 = .ok (.iconst 2, 1) := by decide +kernel
theorem dL_446 : decode code 446 = .ok (.iadd, 1) := by decide +kernel
theorem dL_447 : decode code 447 = .ok (.iaload, 1) := by decide +kernel
theorem dL_448 : decode code 448 = .ok (.invokevirtual 45, 3) := by decide +kernel
theorem dL_451 : decode code 451 = .ok (.aload_n 2, 1) := by decide +kernel
theorem dL_452 : decode code 452 = .ok (.aload_n 0, 1) := by decide +kernel
theorem dL_453 : decode code 453 = .ok (.iload_n 3, 1) := by decide +kernel
theorem dL_454 : decode code 454 = .ok (.iconst 1, 1) := by decide +kernel
theorem dL_455 : decode code 455 = .ok (.iadd, 1) := by decide +kernel
theorem dL_456 : decode code 456 = .ok (.iaload, 1) := by decide +kernel
theorem dL_457 : decode code 457 = .ok (.aload_n 0, 1) := by decide +kernel
theorem dL_458 : decode code 458 = .ok (.iload_n 3, 1) := by decide +kernel
theorem dL_459 : decode code 459 = .ok (.iconst 2, 1) := by decide +kernel
theorem dL_460 : decode code 460 = .ok (.iadd, 1) := by decide +kernel
theorem dL_461 : decode code 461 = .ok (.iaload, 1) := by decide +kernel
theorem dL_462 : decode code 462 = .ok (.invokevirtual 48, 3) := by decide +kernel
theorem dL_465 : decode code 465 = .ok (.if_icmp .eq 837, 3) := by decide +kernel
theorem dL_468 : decode code 468 = .ok (.iconst 0, 1) := by decide +kernel
theorem dL_469 : decode code 469 = .ok (.ireturn, 1) := by decide +kernel
theorem dL_470 : decode code 470 = .ok (.aload_n 1, 1) := by decide +kernel
theorem dL_471 : decode code 471 = .ok (.invokevirtual 49, 3) := by decide +kernel
theorem dL_474 : decode code 474 = .ok (.aload_n 2, 1) := by decide +kernel
theorem dL_475 : decode code 475 = .ok (.invokevirtual 52, 3) := by decide +kernel
theorem dL_478 : decode code 478 = .ok (.if_icmp .eq 824, 3) := by decide +kernel
theorem dL_481 : decode code 481 = .ok (.iconst 0, 1) := by decide +kernel
theorem dL_482 : decode code 482 = .ok (.ireturn, 1) := by decide +kernel
theorem dL_483 : decode code 483 = .ok (.aload_n 1, 1) := by decide +kernel
theorem dL_484 : decode code 484 = .ok (.invokevirtual 53, 3) := by decide +kernel
theorem dL_487 : decode code 487 = .ok (.aload_n 2, 1) := by decide +kernel
theorem dL_488 : decode code 488 = .ok (.invokevirtual 57, 3) := by decide +kernel
theorem dL_491 : decode code 491 = .ok (.if_icmp .eq 811, 3) := by decide +kernel
theorem dL_494 : decode code 494 = .ok (.iconst 0, 1) := by decide +kernel
theorem dL_495 : decode code 495 = .ok (.ireturn, 1) := by decide +kernel
theorem dL_496 : decode code 496 = .ok (.aload_n 1, 1) := by decide +kernel
theorem dL_497 : decode code 497 = .ok (.invokevirtual 58, 3) := by decide +kernel
theorem dL_500 : decode code 500 = .ok (.aload_n 2, 1) := by decide +kernel
theorem dL_501 : decode code 501 = .ok (.invokevirtual 61, 3) := by decide +kernel
theorem dL_504 : decode code 504 = .ok (.if_icmp .eq 798, 3) := by decide +kernel
theorem dL_507 : decode code 507 = .ok (.iconst 0, 1) := by decide +kernel
theorem dL_508 : decode code 508 = .ok (.ireturn, 1) := by decide +kernel
theorem dL_509 : decode code 509 = .ok (.aload_n 1, 1) := by decide +kernel
theorem dL_510 : decode code 510 = .ok (.invokevirtual 62, 3) := by decide +kernel
theorem dL_513 : decode code 513 = .ok (.aload_n 2, 1) := by decide +kernel
theorem dL_514 : decode code 514 = .ok (.invokevirtual 65, 3) := by decide +kernel
theorem dL_517 : decode code 517 = .ok (.if_icmp .eq 785, 3) := by decide +kernel
theorem dL_520 : decode code 520 = .ok (.iconst 0, 1) := by decide +kernel
theorem dL_521 : decode code 521 = .ok (.ireturn, 1) := by decide +kernel
theorem dL_522 : decode code 522 = .ok (.aload_n 1, 1) := by decide +kernel
theorem dL_523 : decode code 523 = .ok (.invokevirtual 66, 3) := by decide +kernel
theorem dL_526 : decode code 526 = .ok (.aload_n 2, 1) := by decide +kernel
theorem dL_527 : decode code 527 = .ok (.invokevirtual 69, 3) := by decide +kernel
theorem dL_530 : decode code 530 = .ok (.if_icmp .eq 772, 3) := by decide +kernel
theorem dL_533 : decode code 533 = .ok (.iconst 0, 1) := by decide +kernel
theorem dL_534 : decode code 534 = .ok (.ireturn, 1) := by decide +kernel
theorem dL_535 : decode code 535 = .ok (.aload_n 1, 1) := by decide +kernel
theorem dL_536 : decode code 536 = .ok (.aload_n 0, 1) := by decide +kernel
theorem dL_537 : decode code 537 = .ok (.iload_n 3, 1) := by decide +kernel
theorem dL_538 : decode code 538 = .ok (.iconst 1, 1) := by decide +kernel
theorem dL_539 : decode code 539 = .ok (.iadd, 1) := by decide +kernel
theorem dL_540 : decode code 540 = .ok (.iaload, 1) := by decide +kernel
theorem dL_541 : decode code 541 = .ok (.invokevirtual 70, 3) := by decide +kernel
theorem dL_544 : decode code 544 = .ok (.aload_n 2, 1) := by decide +kernel
theorem dL_545 : decode code 545 = .ok (.aload_n 0, 1) := by decide +kernel
theorem dL_546 : decode code 546 = .ok (.iload_n 3, 1) := by decide +kernel
theorem dL_547 : decode code 547 = .ok (.iconst 1, 1) := by decide +kernel
theorem dL_548 : decode code 548 = .ok (.iadd, 1) := by decide +kernel
theorem dL_549 : decode code 549 = .ok (.iaload, 1) := by decide +kernel
theorem dL_550 : decode code 550 = .ok (.invokevirtual 73, 3) := by decide +kernel
theorem dL_553 : decode code 553 = .ok (.if_icmp .eq 749, 3) := by decide +kernel
theorem dL_556 : decode code 556 = .ok (.iconst 0, 1) := by decide +kernel
theorem dL_557 : decode code 557 = .ok (.ireturn, 1) := by decide +kernel
theorem dL_558 : decode code 558 = .ok (.aload_n 1, 1) := by decide +kernel
theorem dL_559 : decode code 559 = .ok (.invokevirtual 74, 3) := by decide +kernel
theorem dL_562 : decode code 562 = .ok (.aload_n 2, 1) := by decide +kernel
theorem dL_563 : decode code 563 = .ok (.invokevirtual 77, 3) := by decide +kernel
theorem dL_566 : decode code 566 = .ok (.if_icmp .eq 736, 3) := by decide +kernel
theorem dL_569 : decode code 569 = .ok (.iconst 0, 1) := by decide +kernel
theorem dL_570 : decode code 570 = .ok (.ireturn, 1) := by decide +kernel
theorem dL_571 : decode code 571 = .ok (.aload_n 1, 1) := by decide +kernel
theorem dL_572 : decode code 572 = .ok (.invokevirtual 78, 3) := by decide +kernel
theorem dL_575 : decode code 575 = .ok (.aload_n 2, 1) := by decide +kernel
theorem dL_576 : decode code 576 = .ok (.invokevirtual 81, 3) := by decide +kernel
theorem dL_579 : decode code 579 = .ok (.if_icmp .eq 723, 3) := by decide +kernel
theorem dL_582 : decode code 582 = .ok (.iconst 0, 1) := by decide +kernel
theorem dL_583 : decode code 583 = .ok (.ireturn, 1) := by decide +kernel
theorem dL_584 : decode code 584 = .ok (.aload_n 1, 1) := by decide +kernel
theorem dL_585 : decode code 585 = .ok (.invokevirtual 82, 3) := by decide +kernel
theorem dL_588 : decode code 588 = .ok (.aload_n 2, 1) := by decide +kernel
theorem dL_589 : decode code 589 = .ok (.invokevirtual 85, 3) := by decide +kernel
theorem dL_592 : decode code 592 = .ok (.if_icmp .eq 710, 3) := by decide +kernel
theorem dL_595 : decode code 595 = .ok (.iconst 0, 1) := by decide +kernel
theorem dL_596 : decode code 596 = .ok (.ireturn, 1) := by decide +kernel
theorem dL_597 : decode code 597 = .ok (.aload_n 1, 1) := by decide +kernel
theorem dL_598 : decode code 598 = .ok (.invokevirtual 86, 3) := by decide +kernel
theorem dL_601 : decode code 601 = .ok (.aload_n 2, 1) := by decide +kernel
theorem dL_602 : decode code 602 = .ok (.invokevirtual 89, 3) := by decide +kernel
theorem dL_605 : decode code 605 = .ok (.if_icmp .eq 697, 3) := by decide +kernel
theorem dL_608 : decode code 608 = .ok (.iconst 0, 1) := by decide +kernel
theorem dL_609 : decode code 609 = .ok (.ireturn, 1) := by decide +kernel
theorem dL_610 : decode code 610 = .ok (.aload_n 1, 1) := by decide +kernel
theorem dL_611 : decode code 611 = .ok (.invokevirtual 90, 3) := by decide +kernel
theorem dL_614 : decode code 614 = .ok (.aload_n 2, 1) := by decide +kernel
theorem dL_615 : decode code 615 = .ok (.invokevirtual 93, 3) := by decide +kernel
theorem dL_618 : decode code 618 = .ok (.if_icmp .eq 684, 3) := by decide +kernel
theorem dL_621 : decode code 621 = .ok (.iconst 0, 1) := by decide +kernel
theorem dL_622 : decode code 622 = .ok (.ireturn, 1) := by decide +kernel
theorem dL_623 : decode code 623 = .ok (.aload_n 1, 1) := by decide +kernel
theorem dL_624 : decode code 624 = .ok (.aload_n 0, 1) := by decide +kernel
theorem dL_625 : decode code 625 = .ok (.iload_n 3, 1) := by decide +kernel
theorem dL_626 : decode code 626 = .ok (.iconst 1, 1) := by decide +kernel
theorem dL_627 : decode code 627 = .ok (.iadd, 1) := by decide +kernel
theorem dL_628 : decode code 628 = .ok (.iaload, 1) := by decide +kernel
theorem dL_629 : decode code 629 = .ok (.invokevirtual 94, 3) := by decide +kernel
theorem dL_632 : decode code 632 = .ok (.aload_n 2, 1) := by decide +kernel
theorem dL_633 : decode code 633 = .ok (.aload_n 0, 1) := by decide +kernel
theorem dL_634 : decode code 634 = .ok (.iload_n 3, 1) := by decide +kernel
theorem dL_635 : decode code 635 = .ok (.iconst 1, 1) := by decide +kernel
theorem dL_636 : decode code 636 = .ok (.iadd, 1) := by decide +kernel
theorem dL_637 : decode code 637 = .ok (.iaload, 1) := by decide +kernel
theorem dL_638 : decode code 638 = .ok (.invokevirtual 97, 3) := by decide +kernel
theorem dL_641 : decode code 641 = .ok (.if_icmp .eq 661, 3) := by decide +kernel
theorem dL_644 : decode code 644 = .ok (.iconst 0, 1) := by decide +kernel
theorem dL_645 : decode code 645 = .ok (.ireturn, 1) := by decide +kernel
theorem dL_646 : decode code 646 = .ok (.aload_n 1, 1) := by decide +kernel
theorem dL_647 : decode code 647 = .ok (.aload_n 0, 1) := by decide +kernel
theorem dL_648 : decode code 648 = .ok (.iload_n 3, 1) := by decide +kernel
theorem dL_649 : decode code 649 = .ok (.iconst 1, 1) := by decide +kernel
theorem dL_650 : decode code 650 = .ok (.iadd, 1) := by decide +kernel
theorem dL_651 : decode code 651 = .ok (.iaload, 1) := by decide +kernel
theorem dL_652 : decode code 652 = .ok (.invokevirtual 98, 3) := by decide +kernel
theorem dL_655 : decode code 655 = .ok (.aload_n 2, 1) := by decide +kernel
theorem dL_656 : decode code 656 = .ok (.aload_n 0, 1) := by decide +kernel
theorem dL_657 : decode code 657 = .ok (.iload_n 3, 1) := by decide +kernel
theorem dL_658 : decode code 658 = .ok (.iconst 1, 1) := by decide +kernel
theorem dL_659 : decode code 659 = .ok (.iadd, 1) := by decide +kernel
theorem dL_660 : decode code 660 = .ok (.iaload, 1) := by decide +kernel
theorem dL_661 : decode code 661 = .ok (.invokevirtual 101, 3) := by decide +kernel
theorem dL_664 : decode code 664 = .ok (.if_icmp .eq 638, 3) := by decide +kernel
theorem dL_667 : decode code 667 = .ok (.iconst 0, 1) := by decide +kernel
theorem dL_668 : decode code 668 = .ok (.ireturn, 1) := by decide +kernel
theorem dL_669 : decode code 669 = .ok (.aload_n 1, 1) := by decide +kernel
theorem dL_670 : decode code 670 = .ok (.aload_n 0, 1) := by decide +kernel
theorem dL_671 : decode code 671 = .ok (.iload_n 3, 1) := by decide +kernel
theorem dL_672 : decode code 672 = .ok (.iconst 1, 1) := by decide +kernel
theorem dL_673 : decode code 673 = .ok (.iadd, 1) := by decide +kernel
theorem dL_674 : decode code 674 = .ok (.iaload, 1) := by decide +kernel
theorem dL_675 : decode code 675 = .ok (.invokevirtual 102, 3) := by decide +kernel
theorem dL_678 : decode code 678 = .ok (.aload_n 2, 1) := by decide +kernel
theorem dL_679 : decode code 679 = .ok (.aload_n 0, 1) := by decide +kernel
theorem dL_680 : decode code 680 = .ok (.iload_n 3, 1) := by decide +kernel
theorem dL_681 : decode code 681 = .ok (.iconst 1, 1) := by decide +kernel
theorem dL_682 : decode code 682 = .ok (.iadd, 1) := by decide +kernel
theorem dL_683 : decode code 683 = .ok (.iaload, 1) := by decide +kernel
theorem dL_684 : decode code 684 = .ok (.invokevirtual 105, 3) := by decide +kernel
theorem dL_687 : decode code 687 = .ok (.if_icmp .eq 615, 3) := by decide +kernel
theorem dL_690 : decode code 690 = .ok (.iconst 0, 1) := by decide +kernel
theorem dL_691 : decode code 691 = .ok (.ireturn, 1) := by decide +kernel
theorem dL_692 : decode code 692 = .ok (.aload_n 1, 1) := by decide +kernel
theorem dL_693 : decode code 693 = .ok (.invokevirtual 106, 3) := by decide +kernel
theorem dL_696 : decode code 696 = .ok (.aload_n 2, 1) := by decide +kernel
theorem dL_697 : decode code 697 = .ok (.invokevirtual 109, 3) := by decide +kernel
theorem dL_700 : decode code 700 = .ok (.if_icmp .eq 602, 3) := by decide +kernel
theorem dL_703 : decode code 703 = .ok (.iconst 0, 1) := by decide +kernel
theorem dL_704 : decode code 704 = .ok (.ireturn, 1) := by decide +kernel
theorem dL_705 : decode code 705 = .ok (.aload_n 1, 1) := by decide +kernel
theorem dL_706 : decode code 706 = .ok (.invokevirtual 110, 3) := by decide +kernel
theorem dL_709 : decode code 709 = .ok (.aload_n 2, 1) := by decide +kernel
theorem dL_710 : decode code 710 = .ok (.invokevirtual 113, 3) := by decide +kernel
theorem dL_713 : decode code 713 = .ok (.if_icmp .eq 589, 3) := by decide +kernel
theorem dL_716 : decode code 716 = .ok (.iconst 0, 1) := by decide +kernel
theorem dL_717 : decode code 717 = .ok (.ireturn, 1) := by decide +kernel
theorem dL_718 : decode code 718 = .ok (.aload_n 1, 1) := by decide +kernel
theorem dL_719 : decode code 719 = .ok (.aload_n 0, 1) := by decide +kernel
theorem dL_720 : decode code 720 = .ok (.iload_n 3, 1) := by decide +kernel
theorem dL_721 : decode code 721 = .ok (.iconst 1, 1) := by decide +kernel
theorem dL_722 : decode code 722 = .ok (.iadd, 1) := by decide +kernel
theorem dL_723 : decode code 723 = .ok (.iaload, 1) := by decide +kernel
theorem dL_724 : decode code 724 = .ok (.aload_n 0, 1) := by decide +kernel
theorem dL_725 : decode code 725 = .ok (.iload_n 3, 1) := by decide +kernel
theorem dL_726 : decode code 726 = .ok (.iconst 2, 1) := by decide +kernel
theorem dL_727 : decode code 727 = .ok (.iadd, 1) := by decide +kernel
theorem dL_728 : decode code 728 = .ok (.iaload, 1) := by decide +kernel
theorem dL_729 : decode code 729 = .ok (.invokevirtual 114, 3) := by decide +kernel
theorem dL_732 : decode code 732 = .ok (.aload_n 2, 1) := by decide +kernel
theorem dL_733 : decode code 733 = .ok (.aload_n 0, 1) := by decide +kernel
theorem dL_734 : decode code 734 = .ok (.iload_n 3, 1) := by decide +kernel
theorem dL_735 : decode code 735 = .ok (.iconst 1, 1) := by decide +kernel
theorem dL_736 : decode code 736 = .ok (.iadd, 1) := by decide +kernel
theorem dL_737 : decode code 737 = .ok (.iaload, 1) := by decide +kernel
theorem dL_738 : decode code 738 = .ok (.aload_n 0, 1) := by decide +kernel
theorem dL_739 : decode code 739 = .ok (.iload_n 3, 1) := by decide +kernel
theorem dL_740 : decode code 740 = .ok (.iconst 2, 1) := by decide +kernel
theorem dL_741 : decode code 741 = .ok (.iadd, 1) := by decide +kernel
theorem dL_742 : decode code 742 = .ok (.iaload, 1) := by decide +kernel
theorem dL_743 : decode code 743 = .ok (.invokevirtual 117, 3) := by decide +kernel
theorem dL_746 : decode code 746 = .ok (.if_icmp .eq 556, 3) := by decide +kernel
theorem dL_749 : decode code 749 = .ok (.iconst 0, 1) := by decide +kernel
theorem dL_750 : decode code 750 = .ok (.ireturn, 1) := by decide +kernel
theorem dL_751 : decode code 751 = .ok (.aload_n 1, 1) := by decide +kernel
theorem dL_752 : decode code 752 = .ok (.aload_n 0, 1) := by decide +kernel
theorem dL_753 : decode code 753 = .ok (.iload_n 3, 1) := by decide +kernel
theorem dL_754 : decode code 754 = .ok (.iconst 1, 1) := by decide +kernel
theorem dL_755 : decode code 755 = .ok (.iadd, 1) := by decide +kernel
theorem dL_756 : decode code 756 = .ok (.iaload, 1) := by decide +kernel
theorem dL_757 : decode code 757 = .ok (.aload_n 0, 1) := by decide +kernel
theorem dL_758 : decode code 758 = .ok (.iload_n 3, 1) := by decide +kernel
theorem dL_759 : decode code 759 = .ok (.iconst 2, 1) := by decide +kernel
theorem dL_760 : decode code 760 = .ok (.iadd, 1) := by decide +kernel
theorem dL_761 : decode code 761 = .ok (.iaload, 1) := by decide +kernel
theorem dL_762 : decode code 762 = .ok (.aload_n 0, 1) := by decide +kernel
theorem dL_763 : decode code 763 = .ok (.iload_n 3, 1) := by decide +kernel
theorem dL_764 : decode code 764 = .ok (.iconst 3, 1) := by decide +kernel
theorem dL_765 : decode code 765 = .ok (.iadd, 1) := by decide +kernel
theorem dL_766 : decode code 766 = .ok (.iaload, 1) := by decide +kernel
theorem dL_767 : decode code 767 = .ok (.invokevirtual 118, 3) := by decide +kernel
theorem dL_770 : decode code 770 = .ok (.aload_n 2, 1) := by decide +kernel
theorem dL_771 : decode code 771 = .ok (.aload_n 0, 1) := by decide +kernel
theorem dL_772 : decode code 772 = .ok (.iload_n 3, 1) := by decide +kernel
theorem dL_773 : decode code 773 = .ok (.iconst 1, 1) := by decide +kernel
theorem dL_774 : decode code 774 = .ok (.iadd, 1) := by decide +kernel
theorem dL_775 : decode code 775 = .ok (.iaload, 1) := by decide +kernel
theorem dL_776 : decode code 776 = .ok (.aload_n 0, 1) := by decide +kernel
theorem dL_777 : decode code 777 = .ok (.iload_n 3, 1) := by decide +kernel
theorem dL_778 : decode code 778 = .ok (.iconst 2, 1) := by decide +kernel
theorem dL_779 : decode code 779 = .ok (.iadd, 1) := by decide +kernel
theorem dL_780 : decode code 780 = .ok (.iaload, 1) := by decide +kernel
theorem dL_781 : decode code 781 = .ok (.aload_n 0, 1) := by decide +kernel
theorem dL_782 : decode code 782 = .ok (.iload_n 3, 1) := by decide +kernel
theorem dL_783 : decode code 783 = .ok (.iconst 3, 1) := by decide +kernel
theorem dL_784 : decode code 784 = .ok (.iadd, 1) := by decide +kernel
theorem dL_785 : decode code 785 = .ok (.iaload, 1) := by decide +kernel
theorem dL_786 : decode code 786 = .ok (.invokevirtual 122, 3) := by decide +kernel
theorem dL_789 : decode code 789 = .ok (.if_icmp .eq 513, 3) := by decide +kernel
theorem dL_792 : decode code 792 = .ok (.iconst 0, 1) := by decide +kernel
theorem dL_793 : decode code 793 = .ok (.ireturn, 1) := by decide +kernel
theorem dL_794 : decode code 794 = .ok (.aload_n 1, 1) := by decide +kernel
theorem dL_795 : decode code 795 = .ok (.aload_n 0, 1) := by decide +kernel
theorem dL_796 : decode code 796 = .ok (.iload_n 3, 1) := by decide +kernel
theorem dL_797 : decode code 797 = .ok (.iconst 1, 1) := by decide +kernel
theorem dL_798 : decode code 798 = .ok (.iadd, 1) := by decide +kernel
theorem dL_799 : decode code 799 = .ok (.iaload, 1) := by decide +kernel
theorem dL_800 : decode code 800 = .ok (.aload_n 0, 1) := by decide +kernel
theorem dL_801 : decode code 801 = .ok (.iload_n 3, 1) := by decide +kernel
theorem dL_802 : decode code 802 = .ok (.iconst 2, 1) := by decide +kernel
theorem dL_803 : decode code 803 = .ok (.iadd, 1) := by decide +kernel
theorem dL_804 : decode code 804 = .ok (.iaload, 1) := by decide +kernel
theorem dL_805 : decode code 805 = .ok (.invokevirtual 123, 3) := by decide +kernel
theorem dL_808 : decode code 808 = .ok (.aload_n 2, 1) := by decide +kernel
theorem dL_809 : decode code 809 = .ok (.aload_n 0, 1) := by decide +kernel
theorem dL_810 : decode code 810 = .ok (.iload_n 3, 1) := by decide +kernel
theorem dL_811 : decode code 811 = .ok (.iconst 1, 1) := by decide +kernel
theorem dL_812 : decode code 812 = .ok (.iadd, 1) := by decide +kernel
theorem dL_813 : decode code 813 = .ok (.iaload, 1) := by decide +kernel
theorem dL_814 : decode code 814 = .ok (.aload_n 0, 1) := by decide +kernel
theorem dL_815 : decode code 815 = .ok (.iload_n 3, 1) := by decide +kernel
theorem dL_816 : decode code 816 = .ok (.iconst 2, 1) := by decide +kernel
theorem dL_817 : decode code 817 = .ok (.iadd, 1) := by decide +kernel
theorem dL_818 : decode code 818 = .ok (.iaload, 1) := by decide +kernel
theorem dL_819 : decode code 819 = .ok (.invokevirtual 126, 3) := by decide +kernel
theorem dL_822 : decode code 822 = .ok (.if_icmp .eq 480, 3) := by decide +kernel
theorem dL_825 : decode code 825 = .ok (.iconst 0, 1) := by decide +kernel
theorem dL_826 : decode code 826 = .ok (.ireturn, 1) := by decide +kernel
theorem dL_827 : decode code 827 = .ok (.aload_n 1, 1) := by decide +kernel
theorem dL_828 : decode code 828 = .ok (.aload_n 0, 1) := by decide +kernel
theorem dL_829 : decode code 829 = .ok (.iload_n 3, 1) := by decide +kernel
theorem dL_830 : decode code 830 = .ok (.iconst 1, 1) := by decide +kernel
theorem dL_831 : decode code 831 = .ok (.iadd, 1) := by decide +kernel
theorem dL_832 : decode code 832 = .ok (.iaload, 1) := by decide +kernel
theorem dL_833 : decode code 833 = .ok (.aload_n 0, 1) := by decide +kernel
theorem dL_834 : decode code 834 = .ok (.iload_n 3, 1) := by decide +kernel
theorem dL_835 : decode code 835 = .ok (.iconst 2, 1) := by decide +kernel
theorem dL_836 : decode code 836 = .ok (.iadd, 1) := by decide +kernel
theorem dL_837 : decode code 837 = .ok (.iaload, 1) := by decide +kernel
theorem dL_838 : decode code 838 = .ok (.invokevirtual 127, 3) := by decide +kernel
theorem dL_841 : decode code 841 = .ok (.aload_n 2, 1) := by decide +kernel
theorem dL_842 : decode code 842 = .ok (.aload_n 0, 1) := by decide +kernel
theorem dL_843 : decode code 843 = .ok (.iload_n 3, 1) := by decide +kernel
theorem dL_844 : decode code 844 = .ok (.iconst 1, 1) := by decide +kernel
theorem dL_845 : decode code 845 = .ok (.iadd, 1) := by decide +kernel
theorem dL_846 : decode code 846 = .ok (.iaload, 1) := by decide +kernel
theorem dL_847 : decode code 847 = .ok (.aload_n 0, 1) := by decide +kernel
theorem dL_848 : decode code 848 = .ok (.iload_n 3, 1) := by decide +kernel
theorem dL_849 : decode code 849 = .ok (.iconst 2, 1) := by decide +kernel
theorem dL_850 : decode code 850 = .ok (.iadd, 1) := by decide +kernel
theorem dL_851 : decode code 851 = .ok (.iaload, 1) := by decide +kernel
theorem dL_852 : decode code 852 = .ok (.invokevirtual 130, 3) := by decide +kernel
theorem dL_855 : decode code 855 = .ok (.if_icmp .eq 447, 3) := by decide +kernel
theorem dL_858 : decode code 858 = .ok (.iconst 0, 1) := by decide +kernel
theorem dL_859 : decode code 859 = .ok (.ireturn, 1) := by decide +kernel
theorem dL_860 : decode code 860 = .ok (.aload_n 1, 1) := by decide +kernel
theorem dL_861 : decode code 861 = .ok (.aload_n 0, 1) := by decide +kernel
theorem dL_862 : decode code 862 = .ok (.iload_n 3, 1) := by decide +kernel
theorem dL_863 : decode code 863 = .ok (.iconst 1, 1) := by decide +kernel
theorem dL_864 : decode code 864 = .ok (.iadd, 1) := by decide +kernel
theorem dL_865 : decode code 865 = .ok (.iaload, 1) := by decide +kernel
theorem dL_866 : decode code 866 = .ok (.aload_n 0, 1) := by decide +kernel
theorem dL_867 : decode code 867 = .ok (.iload_n 3, 1) := by decide +kernel
theorem dL_868 : decode code 868 = .ok (.iconst 2, 1) := by decide +kernel
theorem dL_869 : decode code 869 = .ok (.iadd, 1) := by decide +kernel
theorem dL_870 : decode code 870 = .ok (.iaload, 1) := by decide +kernel
theorem dL_871 : decode code 871 = .ok (.aload_n 0, 1) := by decide +kernel
theorem dL_872 : decode code 872 = .ok (.iload_n 3, 1) := by decide +kernel
theorem dL_873 : decode code 873 = .ok (.iconst 3, 1) := by decide +kernel
theorem dL_874 : decode code 874 = .ok (.iadd, 1) := by decide +kernel
theorem dL_875 : decode code 875 = .ok (.iaload, 1) := by decide +kernel
theorem dL_876 : decode code 876 = .ok (.aload_n 0, 1) := by decide +kernel
theorem dL_877 : decode code 877 = .ok (.iload_n 3, 1) := by decide +kernel
theorem dL_878 : decode code 878 = .ok (.iconst 4, 1) := by decide +kernel
theorem dL_879 : decode code 879 = .ok (.iadd, 1) := by decide +kernel
theorem dL_880 : decode code 880 = .ok (.iaload, 1) := by decide +kernel
theorem dL_881 : decode code 881 = .ok (.invokevirtual 131, 3) := by decide +kernel
theorem dL_884 : decode code 884 = .ok (.aload_n 2, 1) := by decide +kernel
theorem dL_885 : decode code 885 = .ok (.aload_n 0, 1) := by decide +kernel
theorem dL_886 : decode code 886 = .ok (.iload_n 3, 1) := by decide +kernel
theorem dL_887 : decode code 887 = .ok (.iconst 1, 1) := by decide +kernel
theorem dL_888 : decode code 888 = .ok (.iadd, 1) := by decide +kernel
theorem dL_889 : decode code 889 = .ok (.iaload, 1) := by decide +kernel
theorem dL_890 : decode code 890 = .ok (.aload_n 0, 1) := by decide +kernel
theorem dL_891 : decode code 891 = .ok (.iload_n 3, 1) := by decide +kernel
theorem dL_892 : decode code 892 = .ok (.iconst 2, 1) := by decide +kernel
theorem dL_893 : decode code 893 = .ok (.iadd, 1) := by decide +kernel
theorem dL_894 : decode code 894 = .ok (.iaload, 1) := by decide +kernel
theorem dL_895 : decode code 895 = .ok (.aload_n 0, 1) := by decide +kernel
theorem dL_896 : decode code 896 = .ok (.iload_n 3, 1) := by decide +kernel
theorem dL_897 : decode code 897 = .ok (.iconst 3, 1) := by decide +kernel
theorem dL_898 : decode code 898 = .ok (.iadd, 1) := by decide +kernel
theorem dL_899 : decode code 899 = .ok (.iaload, 1) := by decide +kernel
theorem dL_900 : decode code 900 = .ok (.aload_n 0, 1) := by decide +kernel
theorem dL_901 : decode code 901 = .ok (.iload_n 3, 1) := by decide +kernel
theorem dL_902 : decode code 902 = .ok (.iconst 4, 1) := by decide +kernel
theorem dL_903 : decode code 903 = .ok (.iadd, 1) := by decide +kernel
theorem dL_904 : decode code 904 = .ok (.iaload, 1) := by decide +kernel
theorem dL_905 : decode code 905 = .ok (.invokevirtual 135, 3) := by decide +kernel
theorem dL_908 : decode code 908 = .ok (.if_icmp .eq 394, 3) := by decide +kernel
theorem dL_911 : decode code 911 = .ok (.iconst 0, 1) := by decide +kernel
theorem dL_912 : decode code 912 = .ok (.ireturn, 1) := by decide +kernel
theorem dL_913 : decode code 913 = .ok (.aload_n 1, 1) := by decide +kernel
theorem dL_914 : decode code 914 = .ok (.aload_n 0, 1) := by decide +kernel
theorem dL_915 : decode code 915 = .ok (.iload_n 3, 1) := by decide +kernel
theorem dL_916 : decode code 916 = .ok (.iconst 1, 1) := by decide +kernel
theorem dL_917 : decode code 917 = .ok (.iadd, 1) := by decide +kernel
theorem dL_918 : decode code 918 = .ok (.iaload, 1) := by decide +kernel
theorem dL_919 : decode code 919 = .ok (.aload_n 0, 1) := by decide +kernel
theorem dL_920 : decode code 920 = .ok (.iload_n 3, 1) := by decide +kernel
theorem dL_921 : decode code 921 = .ok (.iconst 2, 1) := by decide +kernel
theorem dL_922 : decode code 922 = .ok (.iadd, 1) := by decide +kernel
theorem dL_923 : decode code 923 = .ok (.iaload, 1) := by decide +kernel
theorem dL_924 : decode code 924 = .ok (.invokevirtual 136, 3) := by decide +kernel
theorem dL_927 : decode code 927 = .ok (.aload_n 2, 1) := by decide +kernel
theorem dL_928 : decode code 928 = .ok (.aload_n 0, 1) := by decide +kernel
theorem dL_929 : decode code 929 = .ok (.iload_n 3, 1) := by decide +kernel
theorem dL_930 : decode code 930 = .ok (.iconst 1, 1) := by decide +kernel
theorem dL_931 : decode code 931 = .ok (.iadd, 1) := by decide +kernel
theorem dL_932 : decode code 932 = .ok (.iaload, 1) := by decide +kernel
theorem dL_933 : decode code 933 = .ok (.aload_n 0, 1) := by decide +kernel
theorem dL_934 : decode code 934 = .ok (.iload_n 3, 1) := by decide +kernel
theorem dL_935 : decode code 935 = .ok (.iconst 2, 1) := by decide +kernel
theorem dL_936 : decode code 936 = .ok (.iadd, 1) := by decide +kernel
theorem dL_937 : decode code 937 = .ok (.iaload, 1) := by decide +kernel
theorem dL_938 : decode code 938 = .ok (.invokevirtual 139, 3) := by decide +kernel
theorem dL_941 : decode code 941 = .ok (.if_icmp .eq 361, 3) := by decide +kernel
theorem dL_944 : decode code 944 = .ok (.iconst 0, 1) := by decide +kernel
theorem dL_945 : decode code 945 = .ok (.ireturn, 1) := by decide +kernel
theorem dL_946 : decode code 946 = .ok (.aload_n 1, 1) := by decide +kernel
theorem dL_947 : decode code 947 = .ok (.aload_n 0, 1) := by decide +kernel
theorem dL_948 : decode code 948 = .ok (.iload_n 3, 1) := by decide +kernel
theorem dL_949 : decode code 949 = .ok (.iconst 1, 1) := by decide +kernel
theorem dL_950 : decode code 950 = .ok (.iadd, 1) := by decide +kernel
theorem dL_951 : decode code 951 = .ok (.iaload, 1) := by decide +kernel
theorem dL_952 : decode code 952 = .ok (.invokevirtual 140, 3) := by decide +kernel
theorem dL_955 : decode code 955 = .ok (.aload_n 2, 1) := by decide +kernel
theorem dL_956 : decode code 956 = .ok (.aload_n 0, 1) := by decide +kernel
theorem dL_957 : decode code 957 = .ok (.iload_n 3, 1) := by decide +kernel
theorem dL_958 : decode code 958 = .ok (.iconst 1, 1) := by decide +kernel
theorem dL_959 : decode code 959 = .ok (.iadd, 1) := by decide +kernel
theorem dL_960 : decode code 960 = .ok (.iaload, 1) := by decide +kernel
theorem dL_961 : decode code 961 = .ok (.invokevirtual 143, 3) := by decide +kernel
theorem dL_964 : decode code 964 = .ok (.if_icmp .eq 338, 3) := by decide +kernel
theorem dL_967 : decode code 967 = .ok (.iconst 0, 1) := by decide +kernel
theorem dL_968 : decode code 968 = .ok (.ireturn, 1) := by decide +kernel
theorem dL_969 : decode code 969 = .ok (.aload_n 1, 1) := by decide +kernel
theorem dL_970 : decode code 970 = .ok (.aload_n 0, 1) := by decide +kernel
theorem dL_971 : decode code 971 = .ok (.iload_n 3, 1) := by decide +kernel
theorem dL_972 : decode code 972 = .ok (.iconst 1, 1) := by decide +kernel
theorem dL_973 : decode code 973 = .ok (.iadd, 1) := by decide +kernel
theorem dL_974 : decode code 974 = .ok (.iaload, 1) := by decide +kernel
theorem dL_975 : decode code 975 = .ok (.aload_n 0, 1) := by decide +kernel
theorem dL_976 : decode code 976 = .ok (.iload_n 3, 1) := by decide +kernel
theorem dL_977 : decode code 977 = .ok (.iconst 2, 1) := by decide +kernel
theorem dL_978 : decode code 978 = .ok (.iadd, 1) := by decide +kernel
theorem dL_979 : decode code 979 = .ok (.iaload, 1) := by decide +kernel
theorem dL_980 : decode code 980 = .ok (.aload_n 0, 1) := by decide +kernel
theorem dL_981 : decode code 981 = .ok (.iload_n 3, 1) := by decide +kernel
theorem dL_982 : decode code 982 = .ok (.iconst 3, 1) := by decide +kernel
theorem dL_983 : decode code 983 = .ok (.iadd, 1) := by decide +kernel
theorem dL_984 : decode code 984 = .ok (.iaload, 1) := by decide +kernel
theorem dL_985 : decode code 985 = .ok (.aload_n 0, 1) := by decide +kernel
theorem dL_986 : decode code 986 = .ok (.iload_n 3, 1) := by decide +kernel
theorem dL_987 : decode code 987 = .ok (.iconst 4, 1) := by decide +kernel
theorem dL_988 : decode code 988 = .ok (.iadd, 1) := by decide +kernel
theorem dL_989 : decode code 989 = .ok (.iaload, 1) := by decide +kernel
theorem dL_990 : decode code 990 = .ok (.invokevirtual 144, 3) := by decide +kernel
theorem dL_993 : decode code 993 = .ok (.aload_n 2, 1) := by decide +kernel
theorem dL_994 : decode code 994 = .ok (.aload_n 0, 1) := by decide +kernel
theorem dL_995 : decode code 995 = .ok (.iload_n 3, 1) := by decide +kernel
theorem dL_996 : decode code 996 = .ok (.iconst 1, 1) := by decide +kernel
theorem dL_997 : decode code 997 = .ok (.iadd, 1) := by decide +kernel
theorem dL_998 : decode code 998 = .ok (.iaload, 1) := by decide +kernel
theorem dL_999 : decode code 999 = .ok (.aload_n 0, 1) := by decide +kernel
theorem dL_1000 : decode code 1000 = .ok (.iload_n 3, 1) := by decide +kernel
theorem dL_1001 : decode code 1001 = .ok (.iconst 2, 1) := by decide +kernel
theorem dL_1002 : decode code 1002 = .ok (.iadd, 1) := by decide +kernel
theorem dL_1003 : decode code 1003 = .ok (.iaload, 1) := by decide +kernel
theorem dL_1004 : decode code 1004 = .ok (.aload_n 0, 1) := by decide +kernel
theorem dL_1005 : decode code 1005 = .ok (.iload_n 3, 1) := by decide +kernel
theorem dL_1006 : decode code 1006 = .ok (.iconst 3, 1) := by decide +kernel
theorem dL_1007 : decode code 1007 = .ok (.iadd, 1) := by decide +kernel
theorem dL_1008 : decode code 1008 = .ok (.iaload, 1) := by decide +kernel
theorem dL_1009 : decode code 1009 = .ok (.aload_n 0, 1) := by decide +kernel
theorem dL_1010 : decode code 1010 = .ok (.iload_n 3, 1) := by decide +kernel
theorem dL_1011 : decode code 1011 = .ok (.iconst 4, 1) := by decide +kernel
theorem dL_1012 : decode code 1012 = .ok (.iadd, 1) := by decide +kernel
theorem dL_1013 : decode code 1013 = .ok (.iaload, 1) := by decide +kernel
theorem dL_1014 : decode code 1014 = .ok (.invokevirtual 147, 3) := by decide +kernel
theorem dL_1017 : decode code 1017 = .ok (.if_icmp .eq 285, 3) := by decide +kernel
theorem dL_1020 : decode code 1020 = .ok (.iconst 0, 1) := by decide +kernel
theorem dL_1021 : decode code 1021 = .ok (.ireturn, 1) := by decide +kernel
theorem dL_1022 : decode code 1022 = .ok (.aload_n 1, 1) := by decide +kernel
theorem dL_1023 : decode code 1023 = .ok (.aload_n 0, 1) := by decide +kernel
theorem dL_1024 : decode code 1024 = .ok (.iload_n 3, 1) := by decide +kernel
theorem dL_1025 : decode code 1025 = .ok (.iconst 1, 1) := by decide +kernel
theorem dL_1026 : decode code 1026 = .ok (.iadd, 1) := by decide +kernel
theorem dL_1027 : decode code 1027 = .ok (.iaload, 1) := by decide +kernel
theorem dL_1028 : decode code 1028 = .ok (.invokevirtual 148, 3) := by decide +kernel
theorem dL_1031 : decode code 1031 = .ok (.aload_n 2, 1) := by decide +kernel
theorem dL_1032 : decode code 1032 = .ok (.aload_n 0, 1) := by decide +kernel
theorem dL_1033 : decode code 1033 = .ok (.iload_n 3, 1) := by decide +kernel
theorem dL_1034 : decode code 1034 = .ok (.iconst 1, 1) := by decide +kernel
theorem dL_1035 : decode code 1035 = .ok (.iadd, 1) := by decide +kernel
theorem dL_1036 : decode code 1036 = .ok (.iaload, 1) := by decide +kernel
theorem dL_1037 : decode code 1037 = .ok (.invokevirtual 152, 3) := by decide +kernel
theorem dL_1040 : decode code 1040 = .ok (.if_icmp .eq 262, 3) := by decide +kernel
theorem dL_1043 : decode code 1043 = .ok (.iconst 0, 1) := by decide +kernel
theorem dL_1044 : decode code 1044 = .ok (.ireturn, 1) := by decide +kernel
theorem dL_1045 : decode code 1045 = .ok (.aload_n 1, 1) := by decide +kernel
theorem dL_1046 : decode code 1046 = .ok (.aload_n 0, 1) := by decide +kernel
theorem dL_1047 : decode code 1047 = .ok (.iload_n 3, 1) := by decide +kernel
theorem dL_1048 : decode code 1048 = .ok (.iconst 1, 1) := by decide +kernel
theorem dL_1049 : decode code 1049 = .ok (.iadd, 1) := by decide +kernel
theorem dL_1050 : decode code 1050 = .ok (.iaload, 1) := by decide +kernel
theorem dL_1051 : decode code 1051 = .ok (.invokevirtual 153, 3) := by decide +kernel
theorem dL_1054 : decode code 1054 = .ok (.aload_n 2, 1) := by decide +kernel
theorem dL_1055 : decode code 1055 = .ok (.aload_n 0, 1) := by decide +kernel
theorem dL_1056 : decode code 1056 = .ok (.iload_n 3, 1) := by decide +kernel
theorem dL_1057 : decode code 1057 = .ok (.iconst 1, 1) := by decide +kernel
theorem dL_1058 : decode code 1058 = .ok (.iadd, 1) := by decide +kernel
theorem dL_1059 : decode code 1059 = .ok (.iaload, 1) := by decide +kernel
theorem dL_1060 : decode code 1060 = .ok (.invokevirtual 156, 3) := by decide +kernel
theorem dL_1063 : decode code 1063 = .ok (.if_icmp .eq 239, 3) := by decide +kernel
theorem dL_1066 : decode code 1066 = .ok (.iconst 0, 1) := by decide +kernel
theorem dL_1067 : decode code 1067 = .ok (.ireturn, 1) := by decide +kernel
theorem dL_1068 : decode code 1068 = .ok (.aload_n 1, 1) := by decide +kernel
theorem dL_1069 : decode code 1069 = .ok (.aload_n 0, 1) := by decide +kernel
theorem dL_1070 : decode code 1070 = .ok (.iload_n 3, 1) := by decide +kernel
theorem dL_1071 : decode code 1071 = .ok (.iconst 1, 1) := by decide +kernel
theorem dL_1072 : decode code 1072 = .ok (.iadd, 1) := by decide +kernel
theorem dL_1073 : decode code 1073 = .ok (.iaload, 1) := by decide +kernel
theorem dL_1074 : decode code 1074 = .ok (.invokevirtual 157, 3) := by decide +kernel
theorem dL_1077 : decode code 1077 = .ok (.aload_n 2, 1) := by decide +kernel
theorem dL_1078 : decode code 1078 = .ok (.aload_n 0, 1) := by decide +kernel
theorem dL_1079 : decode code 1079 = .ok (.iload_n 3, 1) := by decide +kernel
theorem dL_1080 : decode code 1080 = .ok (.iconst 1, 1) := by decide +kernel
theorem dL_1081 : decode code 1081 = .ok (.iadd, 1) := by decide +kernel
theorem dL_1082 : decode code 1082 = .ok (.iaload, 1) := by decide +kernel
theorem dL_1083 : decode code 1083 = .ok (.invokevirtual 160, 3) := by decide +kernel
theorem dL_1086 : decode code 1086 = .ok (.if_icmp .eq 216, 3) := by decide +kernel
theorem dL_1089 : decode code 1089 = .ok (.iconst 0, 1) := by decide +kernel
theorem dL_1090 : decode code 1090 = .ok (.ireturn, 1) := by decide +kernel
theorem dL_1091 : decode code 1091 = .ok (.aload_n 1, 1) := by decide +kernel
theorem dL_1092 : decode code 1092 = .ok (.aload_n 0, 1) := by decide +kernel
theorem dL_1093 : decode code 1093 = .ok (.iload_n 3, 1) := by decide +kernel
theorem dL_1094 : decode code 1094 = .ok (.iconst 1, 1) := by decide +kernel
theorem dL_1095 : decode code 1095 = .ok (.iadd, 1) := by decide +kernel
theorem dL_1096 : decode code 1096 = .ok (.iaload, 1) := by decide +kernel
theorem dL_1097 : decode code 1097 = .ok (.invokevirtual 161, 3) := by decide +kernel
theorem dL_1100 : decode code 1100 = .ok (.aload_n 2, 1) := by decide +kernel
theorem dL_1101 : decode code 1101 = .ok (.aload_n 0, 1) := by decide +kernel
theorem dL_1102 : decode code 1102 = .ok (.iload_n 3, 1) := by decide +kernel
theorem dL_1103 : decode code 1103 = .ok (.iconst 1, 1) := by decide +kernel
theorem dL_1104 : decode code 1104 = .ok (.iadd, 1) := by decide +kernel
theorem dL_1105 : decode code 1105 = .ok (.iaload, 1) := by decide +kernel
theorem dL_1106 : decode code 1106 = .ok (.invokevirtual 164, 3) := by decide +kernel
theorem dL_1109 : decode code 1109 = .ok (.if_icmp .eq 193, 3) := by decide +kernel
theorem dL_1112 : decode code 1112 = .ok (.iconst 0, 1) := by decide +kernel
theorem dL_1113 : decode code 1113 = .ok (.ireturn, 1) := by decide +kernel
theorem dL_1114 : decode code 1114 = .ok (.aload_n 1, 1) := by decide +kernel
theorem dL_1115 : decode code 1115 = .ok (.aload_n 0, 1) := by decide +kernel
theorem dL_1116 : decode code 1116 = .ok (.iload_n 3, 1) := by decide +kernel
theorem dL_1117 : decode code 1117 = .ok (.iconst 1, 1) := by decide +kernel
theorem dL_1118 : decode code 1118 = .ok (.iadd, 1) := by decide +kernel
theorem dL_1119 : decode code 1119 = .ok (.iaload, 1) := by decide +kernel
theorem dL_1120 : decode code 1120 = .ok (.aload_n 0, 1) := by decide +kernel
theorem dL_1121 : decode code 1121 = .ok (.iload_n 3, 1) := by decide +kernel
theorem dL_1122 : decode code 1122 = .ok (.iconst 2, 1) := by decide +kernel
theorem dL_1123 : decode code 1123 = .ok (.iadd, 1) := by decide +kernel
theorem dL_1124 : decode code 1124 = .ok (.iaload, 1) := by decide +kernel
theorem dL_1125 : decode code 1125 = .ok (.invokevirtual 165, 3) := by decide +kernel
theorem dL_1128 : decode code 1128 = .ok (.aload_n 2, 1) := by decide +kernel
theorem dL_1129 : decode code 1129 = .ok (.aload_n 0, 1) := by decide +kernel
theorem dL_1130 : decode code 1130 = .ok (.iload_n 3, 1) := by decide +kernel
theorem dL_1131 : decode code 1131 = .ok (.iconst 1, 1) := by decide +kernel
theorem dL_1132 : decode code 1132 = .ok (.iadd, 1) := by decide +kernel
theorem dL_1133 : decode code 1133 = .ok (.iaload, 1) := by decide +kernel
theorem dL_1134 : decode code 1134 = .ok (.aload_n 0, 1) := by decide +kernel
theorem dL_1135 : decode code 1135 = .ok (.iload_n 3, 1) := by decide +kernel
theorem dL_1136 : decode code 1136 = .ok (.iconst 2, 1) := by decide +kernel
theorem dL_1137 : decode code 1137 = .ok (.iadd, 1) := by decide +kernel
theorem dL_1138 : decode code 1138 = .ok (.iaload, 1) := by decide +kernel
theorem dL_1139 : decode code 1139 = .ok (.invokevirtual 168, 3) := by decide +kernel
theorem dL_1142 : decode code 1142 = .ok (.if_icmp .eq 160, 3) := by decide +kernel
theorem dL_1145 : decode code 1145 = .ok (.iconst 0, 1) := by decide +kernel
theorem dL_1146 : decode code 1146 = .ok (.ireturn, 1) := by decide +kernel
theorem dL_1147 : decode code 1147 = .ok (.aload_n 1, 1) := by decide +kernel
theorem dL_1148 : decode code 1148 = .ok (.aload_n 0, 1) := by decide +kernel
theorem dL_1149 : decode code 1149 = .ok (.iload_n 3, 1) := by decide +kernel
theorem dL_1150 : decode code 1150 = .ok (.iconst 1, 1) := by decide +kernel
theorem dL_1151 : decode code 1151 = .ok (.iadd, 1) := by decide +kernel
theorem dL_1152 : decode code 1152 = .ok (.iaload, 1) := by decide +kernel
theorem dL_1153 : decode code 1153 = .ok (.aload_n 0, 1) := by decide +kernel
theorem dL_1154 : decode code 1154 = .ok (.iload_n 3, 1) := by decide +kernel
theorem dL_1155 : decode code 1155 = .ok (.iconst 2, 1) := by decide +kernel
theorem dL_1156 : decode code 1156 = .ok (.iadd, 1) := by decide +kernel
theorem dL_1157 : decode code 1157 = .ok (.iaload, 1) := by decide +kernel
theorem dL_1158 : decode code 1158 = .ok (.aload_n 0, 1) := by decide +kernel
theorem dL_1159 : decode code 1159 = .ok (.iload_n 3, 1) := by decide +kernel
theorem dL_1160 : decode code 1160 = .ok (.iconst 3, 1) := by decide +kernel
theorem dL_1161 : decode code 1161 = .ok (.iadd, 1) := by decide +kernel
theorem dL_1162 : decode code 1162 = .ok (.iaload, 1) := by decide +kernel
theorem dL_1163 : decode code 1163 = .ok (.aload_n 0, 1) := by decide +kernel
theorem dL_1164 : decode code 1164 = .ok (.iload_n 3, 1) := by decide +kernel
theorem dL_1165 : decode code 1165 = .ok (.iconst 4, 1) := by decide +kernel
theorem dL_1166 : decode code 1166 = .ok (.iadd, 1) := by decide +kernel
theorem dL_1167 : decode code 1167 = .ok (.iaload, 1) := by decide +kernel
theorem dL_1168 : decode code 1168 = .ok (.invokevirtual 169, 3) := by decide +kernel
theorem dL_1171 : decode code 1171 = .ok (.aload_n 2, 1) := by decide +kernel
theorem dL_1172 : decode code 1172 = .ok (.aload_n 0, 1) := by decide +kernel
theorem dL_1173 : decode code 1173 = .ok (.iload_n 3, 1) := by decide +kernel
theorem dL_1174 : decode code 1174 = .ok (.iconst 1, 1) := by decide +kernel
theorem dL_1175 : decode code 1175 = .ok (.iadd, 1) := by decide +kernel
theorem dL_1176 : decode code 1176 = .ok (.iaload, 1) := by decide +kernel
theorem dL_1177 : decode code 1177 = .ok (.aload_n 0, 1) := by decide +kernel
theorem dL_1178 : decode code 1178 = .ok (.iload_n 3, 1) := by decide +kernel
theorem dL_1179 : decode code 1179 = .ok (.iconst 2, 1) := by decide +kernel
theorem dL_1180 : decode code 1180 = .ok (.iadd, 1) := by decide +kernel
theorem dL_1181 : decode code 1181 = .ok (.iaload, 1) := by decide +kernel
theorem dL_1182 : decode code 1182 = .ok (.aload_n 0, 1) := by decide +kernel
theorem dL_1183 : decode code 1183 = .ok (.iload_n 3, 1) := by decide +kernel
theorem dL_1184 : decode code 1184 = .ok (.iconst 3, 1) := by decide +kernel
theorem dL_1185 : decode code 1185 = .ok (.iadd, 1) := by decide +kernel
theorem dL_1186 : decode code 1186 = .ok (.iaload, 1) := by decide +kernel
theorem dL_1187 : decode code 1187 = .ok (.aload_n 0, 1) := by decide +kernel
theorem dL_1188 : decode code 1188 = .ok (.iload_n 3, 1) := by decide +kernel
theorem dL_1189 : decode code 1189 = .ok (.iconst 4, 1) := by decide +kernel
theorem dL_1190 : decode code 1190 = .ok (.iadd, 1) := by decide +kernel
theorem dL_1191 : decode code 1191 = .ok (.iaload, 1) := by decide +kernel
theorem dL_1192 : decode code 1192 = .ok (.invokevirtual 172, 3) := by decide +kernel
theorem dL_1195 : decode code 1195 = .ok (.if_icmp .eq 107, 3) := by decide +kernel
theorem dL_1198 : decode code 1198 = .ok (.iconst 0, 1) := by decide +kernel
theorem dL_1199 : decode code 1199 = .ok (.ireturn, 1) := by decide +kernel
theorem dL_1200 : decode code 1200 = .ok (.aload_n 1, 1) := by decide +kernel
theorem dL_1201 : decode code 1201 = .ok (.aload_n 0, 1) := by decide +kernel
theorem dL_1202 : decode code 1202 = .ok (.iload_n 3, 1) := by decide +kernel
theorem dL_1203 : decode code 1203 = .ok (.iconst 1, 1) := by decide +kernel
theorem dL_1204 : decode code 1204 = .ok (.iadd, 1) := by decide +kernel
theorem dL_1205 : decode code 1205 = .ok (.iaload, 1) := by decide +kernel
theorem dL_1206 : decode code 1206 = .ok (.aload_n 0, 1) := by decide +kernel
theorem dL_1207 : decode code 1207 = .ok (.iload_n 3, 1) := by decide +kernel
theorem dL_1208 : decode code 1208 = .ok (.iconst 2, 1) := by decide +kernel
theorem dL_1209 : decode code 1209 = .ok (.iadd, 1) := by decide +kernel
theorem dL_1210 : decode code 1210 = .ok (.iaload, 1) := by decide +kernel
theorem dL_1211 : decode code 1211 = .ok (.invokevirtual 173, 3) := by decide +kernel
theorem dL_1214 : decode code 1214 = .ok (.aload_n 2, 1) := by decide +kernel
theorem dL_1215 : decode code 1215 = .ok (.aload_n 0, 1) := by decide +kernel
theorem dL_1216 : decode code 1216 = .ok (.iload_n 3, 1) := by decide +kernel
theorem dL_1217 : decode code 1217 = .ok (.iconst 1, 1) := by decide +kernel
theorem dL_1218 : decode code 1218 = .ok (.iadd, 1) := by decide +kernel
theorem dL_1219 : decode code 1219 = .ok (.iaload, 1) := by decide +kernel
theorem dL_1220 : decode code 1220 = .ok (.aload_n 0, 1) := by decide +kernel
theorem dL_1221 : decode code 1221 = .ok (.iload_n 3, 1) := by decide +kernel
theorem dL_1222 : decode code 1222 = .ok (.iconst 2, 1) := by decide +kernel
theorem dL_1223 : decode code 1223 = .ok (.iadd, 1) := by decide +kernel
theorem dL_1224 : decode code 1224 = .ok (.iaload, 1) := by decide +kernel
theorem dL_1225 : decode code 1225 = .ok (.invokevirtual 176, 3) := by decide +kernel
theorem dL_1228 : decode code 1228 = .ok (.if_icmp .eq 74, 3) := by decide +kernel
theorem dL_1231 : decode code 1231 = .ok (.iconst 0, 1) := by decide +kernel
theorem dL_1232 : decode code 1232 = .ok (.ireturn, 1) := by decide +kernel
theorem dL_1233 : decode code 1233 = .ok (.aload_n 1, 1) := by decide +kernel
theorem dL_1234 : decode code 1234 = .ok (.aload_n 0, 1) := by decide +kernel
theorem dL_1235 : decode code 1235 = .ok (.iload_n 3, 1) := by decide +kernel
theorem dL_1236 : decode code 1236 = .ok (.iconst 1, 1) := by decide +kernel
theorem dL_1237 : decode code 1237 = .ok (.iadd, 1) := by decide +kernel
theorem dL_1238 : decode code 1238 = .ok (.iaload, 1) := by decide +kernel
theorem dL_1239 : decode code 1239 = .ok (.invokevirtual 177, 3) := by decide +kernel
theorem dL_1242 : decode code 1242 = .ok (.aload_n 2, 1) := by decide +kernel
theorem dL_1243 : decode code 1243 = .ok (.aload_n 0, 1) := by decide +kernel
theorem dL_1244 : decode code 1244 = .ok (.iload_n 3, 1) := by decide +kernel
theorem dL_1245 : decode code 1245 = .ok (.iconst 1, 1) := by decide +kernel
theorem dL_1246 : decode code 1246 = .ok (.iadd, 1) := by decide +kernel
theorem dL_1247 : decode code 1247 = .ok (.iaload, 1) := by decide +kernel
theorem dL_1248 : decode code 1248 = .ok (.invokevirtual 180, 3) := by decide +kernel
theorem dL_1251 : decode code 1251 = .ok (.if_icmp .eq 51, 3) := by decide +kernel
theorem dL_1254 : decode code 1254 = .ok (.iconst 0, 1) := by decide +kernel
theorem dL_1255 : decode code 1255 = .ok (.ireturn, 1) := by decide +kernel
theorem dL_1256 : decode code 1256 = .ok (.aload_n 1, 1) := by decide +kernel
theorem dL_1257 : decode code 1257 = .ok (.aload_n 0, 1) := by decide +kernel
theorem dL_1258 : decode code 1258 = .ok (.iload_n 3, 1) := by decide +kernel
theorem dL_1259 : decode code 1259 = .ok (.iconst 1, 1) := by decide +kernel
theorem dL_1260 : decode code 1260 = .ok (.iadd, 1) := by decide +kernel
theorem dL_1261 : decode code 1261 = .ok (.iaload, 1) := by decide +kernel
theorem dL_1262 : decode code 1262 = .ok (.invokevirtual 181, 3) := by decide +kernel
theorem dL_1265 : decode code 1265 = .ok (.aload_n 2, 1) := by decide +kernel
theorem dL_1266 : decode code 1266 = .ok (.aload_n 0, 1) := by decide +kernel
theorem dL_1267 : decode code 1267 = .ok (.iload_n 3, 1) := by decide +kernel
theorem dL_1268 : decode code 1268 = .ok (.iconst 1, 1) := by decide +kernel
theorem dL_1269 : decode code 1269 = .ok (.iadd, 1) := by decide +kernel
theorem dL_1270 : decode code 1270 = .ok (.iaload, 1) := by decide +kernel
theorem dL_1271 : decode code 1271 = .ok (.invokevirtual 184, 3) := by decide +kernel
theorem dL_1274 : decode code 1274 = .ok (.if_icmp .eq 28, 3) := by decide +kernel
theorem dL_1277 : decode code 1277 = .ok (.iconst 0, 1) := by decide +kernel
theorem dL_1278 : decode code 1278 = .ok (.ireturn, 1) := by decide +kernel
theorem dL_1279 : decode code 1279 = .ok (.aload_n 1, 1) := by decide +kernel
theorem dL_1280 : decode code 1280 = .ok (.aload_n 0, 1) := by decide +kernel
theorem dL_1281 : decode code 1281 = .ok (.iload_n 3, 1) := by decide +kernel
theorem dL_1282 : decode code 1282 = .ok (.iconst 1, 1) := by decide +kernel
theorem dL_1283 : decode code 1283 = .ok (.iadd, 1) := by decide +kernel
theorem dL_1284 : decode code 1284 = .ok (.iaload, 1) := by decide +kernel
theorem dL_1285 : decode code 1285 = .ok (.invokevirtual 185, 3) := by decide +kernel
theorem dL_1288 : decode code 1288 = .ok (.aload_n 2, 1) := by decide +kernel
theorem dL_1289 : decode code 1289 = .ok (.aload_n 0, 1) := by decide +kernel
theorem dL_1290 : decode code 1290 = .ok (.iload_n 3, 1) := by decide +kernel
theorem dL_1291 : decode code 1291 = .ok (.iconst 1, 1) := by decide +kernel
theorem dL_1292 : decode code 1292 = .ok (.iadd, 1) := by decide +kernel
theorem dL_1293 : decode code 1293 = .ok (.iaload, 1) := by decide +kernel
theorem dL_1294 : decode code 1294 = .ok (.invokevirtual 188, 3) := by decide +kernel
theorem dL_1297 : decode code 1297 = .ok (.if_icmp .eq 5, 3) := by decide +kernel
theorem dL_1300 : decode code 1300 = .ok (.iconst 0, 1) := by decide +kernel
theorem dL_1301 : decode code 1301 = .ok (.ireturn, 1) := by decide +kernel
theorem dL_1302 : decode code 1302 = .ok (.iinc 3 6, 3) := by decide +kernel
theorem dL_1305 : decode code 1305 = .ok (.goto (-1287), 3) := by decide +kernel
theorem dL_1308 : decode code 1308 = .ok (.iconst 1, 1) := by decide +kernel
theorem dL_1309 : decode code 1309 = .ok (.ireturn, 1) := by decide +kernel
