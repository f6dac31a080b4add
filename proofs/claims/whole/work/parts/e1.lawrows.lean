/-! the law's rows: what stands at each place, and its words -/
theorem d_law_0 : decode code 0 = .ok (.new 7, 3) := by decide +kernel
theorem d_law_3 : decode code 3 = .ok (.dup, 1) := by decide +kernel
theorem d_law_4 : decode code 4 = .ok (.invokespecial 9, 3) := by decide +kernel
theorem d_law_7 : decode code 7 = .ok (.astore_n 1, 1) := by decide +kernel
theorem d_law_8 : decode code 8 = .ok (.new 10, 3) := by decide +kernel
theorem d_law_11 : decode code 11 = .ok (.dup, 1) := by decide +kernel
theorem d_law_12 : decode code 12 = .ok (.invokespecial 12, 3) := by decide +kernel
theorem d_law_15 : decode code 15 = .ok (.astore_n 2, 1) := by decide +kernel
theorem d_law_16 : decode code 16 = .ok (.iconst 0, 1) := by decide +kernel
theorem d_law_17 : decode code 17 = .ok (.istore_n 3, 1) := by decide +kernel
theorem d_law_18 : decode code 18 = .ok (.iload_n 3, 1) := by decide +kernel
theorem d_law_19 : decode code 19 = .ok (.aload_n 0, 1) := by decide +kernel
theorem d_law_20 : decode code 20 = .ok (.arraylength, 1) := by decide +kernel
theorem d_law_21 : decode code 21 = .ok (.bipush 6, 2) := by decide +kernel
theorem d_law_23 : decode code 23 = .ok (.isub, 1) := by decide +kernel
theorem d_law_24 : decode code 24 = .ok (.if_icmp .gt 1238, 3) := by decide +kernel
theorem d_law_27 : decode code 27 = .ok (.aload_n 0, 1) := by decide +kernel
theorem d_law_28 : decode code 28 = .ok (.iload_n 3, 1) := by decide +kernel
theorem d_law_29 : decode code 29 = .ok (.iaload, 1) := by decide +kernel
theorem d_law_30 : decode code 30 = .ok (.bipush 63, 2) := by decide +kernel
theorem d_law_32 : decode code 32 = .ok (.iand, 1) := by decide +kernel
theorem d_law_33 : decode code 33 = .ok (.tableswitch 1223 0 40 #[179, 212, 245, 278, 311, 374, 397, 410, 423, 436, 449, 462, 475, 498, 531, 564, 597, 610, 623, 656, 679, 712, 735, 768, 801, 834, 877, 890, 903, 926, 959, 972, 985, 1008, 1042, 1075, 1108, 1141, 1164, 1187, 1210], 179) := by decide +kernel
theorem d_law_212 : decode code 212 = .ok (.aload_n 1, 1) := by decide +kernel
theorem d_law_213 : decode code 213 = .ok (.aload_n 0, 1) := by decide +kernel
theorem d_law_214 : decode code 214 = .ok (.iload_n 3, 1) := by decide +kernel
theorem d_law_215 : decode code 215 = .ok (.iconst 1, 1) := by decide +kernel
theorem d_law_216 : decode code 216 = .ok (.iadd, 1) := by decide +kernel
theorem d_law_217 : decode code 217 = .ok (.iaload, 1) := by decide +kernel
theorem d_law_218 : decode code 218 = .ok (.aload_n 0, 1) := by decide +kernel
theorem d_law_219 : decode code 219 = .ok (.iload_n 3, 1) := by decide +kernel
theorem d_law_220 : decode code 220 = .ok (.iconst 2, 1) := by decide +kernel
theorem d_law_221 : decode code 221 = .ok (.iadd, 1) := by decide +kernel
theorem d_law_222 : decode code 222 = .ok (.iaload, 1) := by decide +kernel
theorem d_law_223 : decode code 223 = .ok (.invokevirtual 13, 3) := by decide +kernel
theorem d_law_226 : decode code 226 = .ok (.aload_n 2, 1) := by decide +kernel
theorem d_law_227 : decode code 227 = .ok (.aload_n 0, 1) := by decide +kernel
theorem d_law_228 : decode code 228 = .ok (.iload_n 3, 1) := by decide +kernel
theorem d_law_229 : decode code 229 = .ok (.iconst 1, 1) := by decide +kernel
theorem d_law_230 : decode code 230 = .ok (.iadd, 1) := by decide +kernel
theorem d_law_231 : decode code 231 = .ok (.iaload, 1) := by decide +kernel
theorem d_law_232 : decode code 232 = .ok (.aload_n 0, 1) := by decide +kernel
theorem d_law_233 : decode code 233 = .ok (.iload_n 3, 1) := by decide +kernel
theorem d_law_234 : decode code 234 = .ok (.iconst 2, 1) := by decide +kernel
theorem d_law_235 : decode code 235 = .ok (.iadd, 1) := by decide +kernel
theorem d_law_236 : decode code 236 = .ok (.iaload, 1) := by decide +kernel
theorem d_law_237 : decode code 237 = .ok (.invokevirtual 17, 3) := by decide +kernel
theorem d_law_240 : decode code 240 = .ok (.if_icmp .eq 1016, 3) := by decide +kernel
theorem d_law_243 : decode code 243 = .ok (.iconst 0, 1) := by decide +kernel
theorem d_law_244 : decode code 244 = .ok (.ireturn, 1) := by decide +kernel
theorem d_law_245 : decode code 245 = .ok (.aload_n 1, 1) := by decide +kernel
theorem d_law_246 : decode code 246 = .ok (.aload_n 0, 1) := by decide +kernel
theorem d_law_247 : decode code 247 = .ok (.iload_n 3, 1) := by decide +kernel
theorem d_law_248 : decode code 248 = .ok (.iconst 1, 1) := by decide +kernel
theorem d_law_249 : decode code 249 = .ok (.iadd, 1) := by decide +kernel
theorem d_law_250 : decode code 250 = .ok (.iaload, 1) := by decide +kernel
theorem d_law_251 : decode code 251 = .ok (.aload_n 0, 1) := by decide +kernel
theorem d_law_252 : decode code 252 = .ok (.iload_n 3, 1) := by decide +kernel
theorem d_law_253 : decode code 253 = .ok (.iconst 2, 1) := by decide +kernel
theorem d_law_254 : decode code 254 = .ok (.iadd, 1) := by decide +kernel
theorem d_law_255 : decode code 255 = .ok (.iaload, 1) := by decide +kernel
theorem d_law_256 : decode code 256 = .ok (.invokevirtual 18, 3) := by decide +kernel
theorem d_law_259 : decode code 259 = .ok (.aload_n 2, 1) := by decide +kernel
theorem d_law_260 : decode code 260 = .ok (.aload_n 0, 1) := by decide +kernel
theorem d_law_261 : decode code 261 = .ok (.iload_n 3, 1) := by decide +kernel
theorem d_law_262 : decode code 262 = .ok (.iconst 1, 1) := by decide +kernel
theorem d_law_263 : decode code 263 = .ok (.iadd, 1) := by decide +kernel
theorem d_law_264 : decode code 264 = .ok (.iaload, 1) := by decide +kernel
theorem d_law_265 : decode code 265 = .ok (.aload_n 0, 1) := by decide +kernel
theorem d_law_266 : decode code 266 = .ok (.iload_n 3, 1) := by decide +kernel
theorem d_law_267 : decode code 267 = .ok (.iconst 2, 1) := by decide +kernel
theorem d_law_268 : decode code 268 = .ok (.iadd, 1) := by decide +kernel
theorem d_law_269 : decode code 269 = .ok (.iaload, 1) := by decide +kernel
theorem d_law_270 : decode code 270 = .ok (.invokevirtual 21, 3) := by decide +kernel
theorem d_law_273 : decode code 273 = .ok (.if_icmp .eq 983, 3) := by decide +kernel
theorem d_law_276 : decode code 276 = .ok (.iconst 0, 1) := by decide +kernel
theorem d_law_277 : decode code 277 = .ok (.ireturn, 1) := by decide +kernel
theorem d_law_278 : decode code 278 = .ok (.aload_n 1, 1) := by decide +kernel
theorem d_law_279 : decode code 279 = .ok (.aload_n 0, 1) := by decide +kernel
theorem d_law_280 : decode code 280 = .ok (.iload_n 3, 1) := by decide +kernel
theorem d_law_281 : decode code 281 = .ok (.iconst 1, 1) := by decide +kernel
theorem d_law_282 : decode code 282 = .ok (.iadd, 1) := by decide +kernel
theorem d_law_283 : decode code 283 = .ok (.iaload, 1) := by decide +kernel
theorem d_law_284 : decode code 284 = .ok (.aload_n 0, 1) := by decide +kernel
theorem d_law_285 : decode code 285 = .ok (.iload_n 3, 1) := by decide +kernel
theorem d_law_286 : decode code 286 = .ok (.iconst 2, 1) := by decide +kernel
theorem d_law_287 : decode code 287 = .ok (.iadd, 1) := by decide +kernel
theorem d_law_288 : decode code 288 = .ok (.iaload, 1) := by decide +kernel
theorem d_law_289 : decode code 289 = .ok (.invokevirtual 22, 3) := by decide +kernel
theorem d_law_292 : decode code 292 = .ok (.aload_n 2, 1) := by decide +kernel
theorem d_law_293 : decode code 293 = .ok (.aload_n 0, 1) := by decide +kernel
theorem d_law_294 : decode code 294 = .ok (.iload_n 3, 1) := by decide +kernel
theorem d_law_295 : decode code 295 = .ok (.iconst 1, 1) := by decide +kernel
theorem d_law_296 : decode code 296 = .ok (.iadd, 1) := by decide +kernel
theorem d_law_297 : decode code 297 = .ok (.iaload, 1) := by decide +kernel
theorem d_law_298 : decode code 298 = .ok (.aload_n 0, 1) := by decide +kernel
theorem d_law_299 : decode code 299 = .ok (.iload_n 3, 1) := by decide +kernel
theorem d_law_300 : decode code 300 = .ok (.iconst 2, 1) := by decide +kernel
theorem d_law_301 : decode code 301 = .ok (.iadd, 1) := by decide +kernel
theorem d_law_302 : decode code 302 = .ok (.iaload, 1) := by decide +kernel
theorem d_law_303 : decode code 303 = .ok (.invokevirtual 25, 3) := by decide +kernel
theorem d_law_306 : decode code 306 = .ok (.if_icmp .eq 950, 3) := by decide +kernel
theorem d_law_309 : decode code 309 = .ok (.iconst 0, 1) := by decide +kernel
theorem d_law_310 : decode code 310 = .ok (.ireturn, 1) := by decide +kernel
theorem d_law_311 : decode code 311 = .ok (.aload_n 1, 1) := by decide +kernel
theorem d_law_312 : decode code 312 = .ok (.aload_n 0, 1) := by decide +kernel
theorem d_law_313 : decode code 313 = .ok (.iload_n 3, 1) := by decide +kernel
theorem d_law_314 : decode code 314 = .ok (.iconst 1, 1) := by decide +kernel
theorem d_law_315 : decode code 315 = .ok (.iadd, 1) := by decide +kernel
theorem d_law_316 : decode code 316 = .ok (.iaload, 1) := by decide +kernel
theorem d_law_317 : decode code 317 = .ok (.aload_n 0, 1) := by decide +kernel
theorem d_law_318 : decode code 318 = .ok (.iload_n 3, 1) := by decide +kernel
theorem d_law_319 : decode code 319 = .ok (.iconst 2, 1) := by decide +kernel
theorem d_law_320 : decode code 320 = .ok (.iadd, 1) := by decide +kernel
theorem d_law_321 : decode code 321 = .ok (.iaload, 1) := by decide +kernel
theorem d_law_322 : decode code 322 = .ok (.invokevirtual 26, 3) := by decide +kernel
theorem d_law_325 : decode code 325 = .ok (.aload_n 2, 1) := by decide +kernel
theorem d_law_326 : decode code 326 = .ok (.aload_n 0, 1) := by decide +kernel
theorem d_law_327 : decode code 327 = .ok (.iload_n 3, 1) := by decide +kernel
theorem d_law_328 : decode code 328 = .ok (.iconst 1, 1) := by decide +kernel
theorem d_law_329 : decode code 329 = .ok (.iadd, 1) := by decide +kernel
theorem d_law_330 : decode code 330 = .ok (.iaload, 1) := by decide +kernel
theorem d_law_331 : decode code 331 = .ok (.aload_n 0, 1) := by decide +kernel
theorem d_law_332 : decode code 332 = .ok (.iload_n 3, 1) := by decide +kernel
theorem d_law_333 : decode code 333 = .ok (.iconst 2, 1) := by decide +kernel
theorem d_law_334 : decode code 334 = .ok (.iadd, 1) := by decide +kernel
theorem d_law_335 : decode code 335 = .ok (.iaload, 1) := by decide +kernel
theorem d_law_336 : decode code 336 = .ok (.invokevirtual 29, 3) := by decide +kernel
theorem d_law_339 : decode code 339 = .ok (.if_icmp .eq 917, 3) := by decide +kernel
theorem d_law_342 : decode code 342 = .ok (.iconst 0, 1) := by decide +kernel
theorem d_law_343 : decode code 343 = .ok (.ireturn, 1) := by decide +kernel
theorem d_law_344 : decode code 344 = .ok (.aload_n 1, 1) := by decide +kernel
theorem d_law_345 : decode code 345 = .ok (.aload_n 0, 1) := by decide +kernel
theorem d_law_346 : decode code 346 = .ok (.iload_n 3, 1) := by decide +kernel
theorem d_law_347 : decode code 347 = .ok (.iconst 1, 1) := by decide +kernel
theorem d_law_348 : decode code 348 = .ok (.iadd, 1) := by decide +kernel
theorem d_law_349 : decode code 349 = .ok (.iaload, 1) := by decide +kernel
theorem d_law_350 : decode code 350 = .ok (.aload_n 0, 1) := by decide +kernel
theorem d_law_351 : decode code 351 = .ok (.iload_n 3, 1) := by decide +kernel
theorem d_law_352 : decode code 352 = .ok (.iconst 2, 1) := by decide +kernel
theorem d_law_353 : decode code 353 = .ok (.iadd, 1) := by decide +kernel
theorem d_law_354 : decode code 354 = .ok (.iaload, 1) := by decide +kernel
theorem d_law_355 : decode code 355 = .ok (.aload_n 0, 1) := by decide +kernel
theorem d_law_356 : decode code 356 = .ok (.iload_n 3, 1) := by decide +kernel
theorem d_law_357 : decode code 357 = .ok (.iconst 3, 1) := by decide +kernel
theorem d_law_358 : decode code 358 = .ok (.iadd, 1) := by decide +kernel
theorem d_law_359 : decode code 359 = .ok (.iaload, 1) := by decide +kernel
theorem d_law_360 : decode code 360 = .ok (.aload_n 0, 1) := by decide +kernel
theorem d_law_361 : decode code 361 = .ok (.iload_n 3, 1) := by decide +kernel
theorem d_law_362 : decode code 362 = .ok (.iconst 4, 1) := by decide +kernel
theorem d_law_363 : decode code 363 = .ok (.iadd, 1) := by decide +kernel
theorem d_law_364 : decode code 364 = .ok (.iaload, 1) := by decide +kernel
theorem d_law_365 : decode code 365 = .ok (.aload_n 0, 1) := by decide +kernel
theorem d_law_366 : decode code 366 = .ok (.iload_n 3, 1) := by decide +kernel
theorem d_law_367 : decode code 367 = .ok (.iconst 5, 1) := by decide +kernel
theorem d_law_368 : decode code 368 = .ok (.iadd, 1) := by decide +kernel
theorem d_law_369 : decode code 369 = .ok (.iaload, 1) := by decide +kernel
theorem d_law_370 : decode code 370 = .ok (.invokevirtual 30, 3) := by decide +kernel
theorem d_law_373 : decode code 373 = .ok (.aload_n 2, 1) := by decide +kernel
theorem d_law_374 : decode code 374 = .ok (.aload_n 0, 1) := by decide +kernel
theorem d_law_375 : decode code 375 = .ok (.iload_n 3, 1) := by decide +kernel
theorem d_law_376 : decode code 376 = .ok (.iconst 1, 1) := by decide +kernel
theorem d_law_377 : decode code 377 = .ok (.iadd, 1) := by decide +kernel
theorem d_law_378 : decode code 378 = .ok (.iaload, 1) := by decide +kernel
theorem d_law_379 : decode code 379 = .ok (.aload_n 0, 1) := by decide +kernel
theorem d_law_380 : decode code 380 = .ok (.iload_n 3, 1) := by decide +kernel
theorem d_law_381 : decode code 381 = .ok (.iconst 2, 1) := by decide +kernel
theorem d_law_382 : decode code 382 = .ok (.iadd, 1) := by decide +kernel
theorem d_law_383 : decode code 383 = .ok (.iaload, 1) := by decide +kernel
theorem d_law_384 : decode code 384 = .ok (.aload_n 0, 1) := by decide +kernel
theorem d_law_385 : decode code 385 = .ok (.iload_n 3, 1) := by decide +kernel
theorem d_law_386 : decode code 386 = .ok (.iconst 3, 1) := by decide +kernel
theorem d_law_387 : decode code 387 = .ok (.iadd, 1) := by decide +kernel
theorem d_law_388 : decode code 388 = .ok (.iaload, 1) := by decide +kernel
theorem d_law_389 : decode code 389 = .ok (.aload_n 0, 1) := by decide +kernel
theorem d_law_390 : decode code 390 = .ok (.iload_n 3, 1) := by decide +kernel
theorem d_law_391 : decode code 391 = .ok (.iconst 4, 1) := by decide +kernel
theorem d_law_392 : decode code 392 = .ok (.iadd, 1) := by decide +kernel
theorem d_law_393 : decode code 393 = .ok (.iaload, 1) := by decide +kernel
theorem d_law_394 : decode code 394 = .ok (.aload_n 0, 1) := by decide +kernel
theorem d_law_395 : decode code 395 = .ok (.iload_n 3, 1) := by decide +kernel
theorem d_law_396 : decode code 396 = .ok (.iconst 5, 1) := by decide +kernel
theorem d_law_397 : decode code 397 = .ok (.iadd, 1) := by decide +kernel
theorem d_law_398 : decode code 398 = .ok (.iaload, 1) := by decide +kernel
theorem d_law_399 : decode code 399 = .ok (.invokevirtual 34, 3) := by decide +kernel
theorem d_law_402 : decode code 402 = .ok (.if_icmp .eq 854, 3) := by decide +kernel
theorem d_law_405 : decode code 405 = .ok (.iconst 0, 1) := by decide +kernel
theorem d_law_406 : decode code 406 = .ok (.ireturn, 1) := by decide +kernel
theorem d_law_407 : decode code 407 = .ok (.aload_n 1, 1) := by decide +kernel
theorem d_law_408 : decode code 408 = .ok (.aload_n 0, 1) := by decide +kernel
theorem d_law_409 : decode code 409 = .ok (.iload_n 3, 1) := by decide +kernel
theorem d_law_410 : decode code 410 = .ok (.iconst 1, 1) := by decide +kernel
theorem d_law_411 : decode code 411 = .ok (.iadd, 1) := by decide +kernel
theorem d_law_412 : decode code 412 = .ok (.iaload, 1) := by decide +kernel
theorem d_law_413 : decode code 413 = .ok (.invokevirtual 35, 3) := by decide +kernel
theorem d_law_416 : decode code 416 = .ok (.aload_n 2, 1) := by decide +kernel
theorem d_law_417 : decode code 417 = .ok (.aload_n 0, 1) := by decide +kernel
theorem d_law_418 : decode code 418 = .ok (.iload_n 3, 1) := by decide +kernel
theorem d_law_419 : decode code 419 = .ok (.iconst 1, 1) := by decide +kernel
theorem d_law_420 : decode code 420 = .ok (.iadd, 1) := by decide +kernel
theorem d_law_421 : decode code 421 = .ok (.iaload, 1) := by decide +kernel
theorem d_law_422 : decode code 422 = .ok (.invokevirtual 39, 3) := by decide +kernel
theorem d_law_425 : decode code 425 = .ok (.if_icmp .eq 831, 3) := by decide +kernel
theorem d_law_428 : decode code 428 = .ok (.iconst 0, 1) := by decide +kernel
theorem d_law_429 : decode code 429 = .ok (.ireturn, 1) := by decide +kernel
theorem d_law_430 : decode code 430 = .ok (.aload_n 1, 1) := by decide +kernel
theorem d_law_431 : decode code 431 = .ok (.invokevirtual 40, 3) := by decide +kernel
theorem d_law_434 : decode code 434 = .ok (.aload_n 2, 1) := by decide +kernel
theorem d_law_435 : decode code 435 = .ok (.invokevirtual 44, 3) := by decide +kernel
theorem d_law_438 : decode code 438 = .ok (.if_icmp .eq 818, 3) := by decide +kernel
theorem d_law_441 : decode code 441 = .ok (.iconst 0, 1) := by decide +kernel
theorem d_law_442 : decode code 442 = .ok (.ireturn, 1) := by decide +kernel
theorem d_law_443 : decode code 443 = .ok (.aload_n 1, 1) := by decide +kernel
theorem d_law_444 : decode code 444 = .ok (.invokevirtual 45, 3) := by decide +kernel
theorem d_law_447 : decode code 447 = .ok (.aload_n 2, 1) := by decide +kernel
theorem d_law_448 : decode code 448 = .ok (.invokevirtual 48, 3) := by decide +kernel
theorem d_law_451 : decode code 451 = .ok (.if_icmp .eq 805, 3) := by decide +kernel
theorem d_law_454 : decode code 454 = .ok (.iconst 0, 1) := by decide +kernel
theorem d_law_455 : decode code 455 = .ok (.ireturn, 1) := by decide +kernel
theorem d_law_456 : decode code 456 = .ok (.aload_n 1, 1) := by decide +kernel
theorem d_law_457 : decode code 457 = .ok (.invokevirtual 49, 3) := by decide +kernel
theorem d_law_460 : decode code 460 = .ok (.aload_n 2, 1) := by decide +kernel
theorem d_law_461 : decode code 461 = .ok (.invokevirtual 52, 3) := by decide +kernel
theorem d_law_464 : decode code 464 = .ok (.if_icmp .eq 792, 3) := by decide +kernel
theorem d_law_467 : decode code 467 = .ok (.iconst 0, 1) := by decide +kernel
theorem d_law_468 : decode code 468 = .ok (.ireturn, 1) := by decide +kernel
theorem d_law_469 : decode code 469 = .ok (.aload_n 1, 1) := by decide +kernel
theorem d_law_470 : decode code 470 = .ok (.invokevirtual 53, 3) := by decide +kernel
theorem d_law_473 : decode code 473 = .ok (.aload_n 2, 1) := by decide +kernel
theorem d_law_474 : decode code 474 = .ok (.invokevirtual 56, 3) := by decide +kernel
theorem d_law_477 : decode code 477 = .ok (.if_icmp .eq 779, 3) := by decide +kernel
theorem d_law_480 : decode code 480 = .ok (.iconst 0, 1) := by decide +kernel
theorem d_law_481 : decode code 481 = .ok (.ireturn, 1) := by decide +kernel
theorem d_law_482 : decode code 482 = .ok (.aload_n 1, 1) := by decide +kernel
theorem d_law_483 : decode code 483 = .ok (.invokevirtual 57, 3) := by decide +kernel
theorem d_law_486 : decode code 486 = .ok (.aload_n 2, 1) := by decide +kernel
theorem d_law_487 : decode code 487 = .ok (.invokevirtual 60, 3) := by decide +kernel
theorem d_law_490 : decode code 490 = .ok (.if_icmp .eq 766, 3) := by decide +kernel
theorem d_law_493 : decode code 493 = .ok (.iconst 0, 1) := by decide +kernel
theorem d_law_494 : decode code 494 = .ok (.ireturn, 1) := by decide +kernel
theorem d_law_495 : decode code 495 = .ok (.aload_n 1, 1) := by decide +kernel
theorem d_law_496 : decode code 496 = .ok (.invokevirtual 61, 3) := by decide +kernel
theorem d_law_499 : decode code 499 = .ok (.aload_n 2, 1) := by decide +kernel
theorem d_law_500 : decode code 500 = .ok (.invokevirtual 64, 3) := by decide +kernel
theorem d_law_503 : decode code 503 = .ok (.if_icmp .eq 753, 3) := by decide +kernel
theorem d_law_506 : decode code 506 = .ok (.iconst 0, 1) := by decide +kernel
theorem d_law_507 : decode code 507 = .ok (.ireturn, 1) := by decide +kernel
theorem d_law_508 : decode code 508 = .ok (.aload_n 1, 1) := by decide +kernel
theorem d_law_509 : decode code 509 = .ok (.aload_n 0, 1) := by decide +kernel
theorem d_law_510 : decode code 510 = .ok (.iload_n 3, 1) := by decide +kernel
theorem d_law_511 : decode code 511 = .ok (.iconst 1, 1) := by decide +kernel
theorem d_law_512 : decode code 512 = .ok (.iadd, 1) := by decide +kernel
theorem d_law_513 : decode code 513 = .ok (.iaload, 1) := by decide +kernel
theorem d_law_514 : decode code 514 = .ok (.invokevirtual 65, 3) := by decide +kernel
theorem d_law_517 : decode code 517 = .ok (.aload_n 2, 1) := by decide +kernel
theorem d_law_518 : decode code 518 = .ok (.aload_n 0, 1) := by decide +kernel
theorem d_law_519 : decode code 519 = .ok (.iload_n 3, 1) := by decide +kernel
theorem d_law_520 : decode code 520 = .ok (.iconst 1, 1) := by decide +kernel
theorem d_law_521 : decode code 521 = .ok (.iadd, 1) := by decide +kernel
theorem d_law_522 : decode code 522 = .ok (.iaload, 1) := by decide +kernel
theorem d_law_523 : decode code 523 = .ok (.invokevirtual 68, 3) := by decide +kernel
theorem d_law_526 : decode code 526 = .ok (.if_icmp .eq 730, 3) := by decide +kernel
theorem d_law_529 : decode code 529 = .ok (.iconst 0, 1) := by decide +kernel
theorem d_law_530 : decode code 530 = .ok (.ireturn, 1) := by decide +kernel
theorem d_law_531 : decode code 531 = .ok (.aload_n 1, 1) := by decide +kernel
theorem d_law_532 : decode code 532 = .ok (.aload_n 0, 1) := by decide +kernel
theorem d_law_533 : decode code 533 = .ok (.iload_n 3, 1) := by decide +kernel
theorem d_law_534 : decode code 534 = .ok (.iconst 1, 1) := by decide +kernel
theorem d_law_535 : decode code 535 = .ok (.iadd, 1) := by decide +kernel
theorem d_law_536 : decode code 536 = .ok (.iaload, 1) := by decide +kernel
theorem d_law_537 : decode code 537 = .ok (.aload_n 0, 1) := by decide +kernel
theorem d_law_538 : decode code 538 = .ok (.iload_n 3, 1) := by decide +kernel
theorem d_law_539 : decode code 539 = .ok (.iconst 2, 1) := by decide +kernel
theorem d_law_540 : decode code 540 = .ok (.iadd, 1) := by decide +kernel
theorem d_law_541 : decode code 541 = .ok (.iaload, 1) := by decide +kernel
theorem d_law_542 : decode code 542 = .ok (.invokevirtual 69, 3) := by decide +kernel
theorem d_law_545 : decode code 545 = .ok (.aload_n 2, 1) := by decide +kernel
theorem d_law_546 : decode code 546 = .ok (.aload_n 0, 1) := by decide +kernel
theorem d_law_547 : decode code 547 = .ok (.iload_n 3, 1) := by decide +kernel
theorem d_law_548 : decode code 548 = .ok (.iconst 1, 1) := by decide +kernel
theorem d_law_549 : decode code 549 = .ok (.iadd, 1) := by decide +kernel
theorem d_law_550 : decode code 550 = .ok (.iaload, 1) := by decide +kernel
theorem d_law_551 : decode code 551 = .ok (.aload_n 0, 1) := by decide +kernel
theorem d_law_552 : decode code 552 = .ok (.iload_n 3, 1) := by decide +kernel
theorem d_law_553 : decode code 553 = .ok (.iconst 2, 1) := by decide +kernel
theorem d_law_554 : decode code 554 = .ok (.iadd, 1) := by decide +kernel
theorem d_law_555 : decode code 555 = .ok (.iaload, 1) := by decide +kernel
theorem d_law_556 : decode code 556 = .ok (.invokevirtual 72, 3) := by decide +kernel
theorem d_law_559 : decode code 559 = .ok (.if_icmp .eq 697, 3) := by decide +kernel
theorem d_law_562 : decode code 562 = .ok (.iconst 0, 1) := by decide +kernel
theorem d_law_563 : decode code 563 = .ok (.ireturn, 1) := by decide +kernel
theorem d_law_564 : decode code 564 = .ok (.aload_n 1, 1) := by decide +kernel
theorem d_law_565 : decode code 565 = .ok (.aload_n 0, 1) := by decide +kernel
theorem d_law_566 : decode code 566 = .ok (.iload_n 3, 1) := by decide +kernel
theorem d_law_567 : decode code 567 = .ok (.iconst 1, 1) := by decide +kernel
theorem d_law_568 : decode code 568 = .ok (.iadd, 1) := by decide +kernel
theorem d_law_569 : decode code 569 = .ok (.iaload, 1) := by decide +kernel
theorem d_law_570 : decode code 570 = .ok (.aload_n 0, 1) := by decide +kernel
theorem d_law_571 : decode code 571 = .ok (.iload_n 3, 1) := by decide +kernel
theorem d_law_572 : decode code 572 = .ok (.iconst 2, 1) := by decide +kernel
theorem d_law_573 : decode code 573 = .ok (.iadd, 1) := by decide +kernel
theorem d_law_574 : decode code 574 = .ok (.iaload, 1) := by decide +kernel
theorem d_law_575 : decode code 575 = .ok (.invokevirtual 73, 3) := by decide +kernel
theorem d_law_578 : decode code 578 = .ok (.aload_n 2, 1) := by decide +kernel
theorem d_law_579 : decode code 579 = .ok (.aload_n 0, 1) := by decide +kernel
theorem d_law_580 : decode code 580 = .ok (.iload_n 3, 1) := by decide +kernel
theorem d_law_581 : decode code 581 = .ok (.iconst 1, 1) := by decide +kernel
theorem d_law_582 : decode code 582 = .ok (.iadd, 1) := by decide +kernel
theorem d_law_583 : decode code 583 = .ok (.iaload, 1) := by decide +kernel
theorem d_law_584 : decode code 584 = .ok (.aload_n 0, 1) := by decide +kernel
theorem d_law_585 : decode code 585 = .ok (.iload_n 3, 1) := by decide +kernel
theorem d_law_586 : decode code 586 = .ok (.iconst 2, 1) := by decide +kernel
theorem d_law_587 : decode code 587 = .ok (.iadd, 1) := by decide +kernel
theorem d_law_588 : decode code 588 = .ok (.iaload, 1) := by decide +kernel
theorem d_law_589 : decode code 589 = .ok (.invokevirtual 76, 3) := by decide +kernel
theorem d_law_592 : decode code 592 = .ok (.if_icmp .eq 664, 3) := by decide +kernel
theorem d_law_595 : decode code 595 = .ok (.iconst 0, 1) := by decide +kernel
theorem d_law_596 : decode code 596 = .ok (.ireturn, 1) := by decide +kernel
theorem d_law_597 : decode code 597 = .ok (.aload_n 1, 1) := by decide +kernel
theorem d_law_598 : decode code 598 = .ok (.aload_n 0, 1) := by decide +kernel
theorem d_law_599 : decode code 599 = .ok (.iload_n 3, 1) := by decide +kernel
theorem d_law_600 : decode code 600 = .ok (.iconst 1, 1) := by decide +kernel
theorem d_law_601 : decode code 601 = .ok (.iadd, 1) := by decide +kernel
theorem d_law_602 : decode code 602 = .ok (.iaload, 1) := by decide +kernel
theorem d_law_603 : decode code 603 = .ok (.aload_n 0, 1) := by decide +kernel
theorem d_law_604 : decode code 604 = .ok (.iload_n 3, 1) := by decide +kernel
theorem d_law_605 : decode code 605 = .ok (.iconst 2, 1) := by decide +kernel
theorem d_law_606 : decode code 606 = .ok (.iadd, 1) := by decide +kernel
theorem d_law_607 : decode code 607 = .ok (.iaload, 1) := by decide +kernel
theorem d_law_608 : decode code 608 = .ok (.invokevirtual 77, 3) := by decide +kernel
theorem d_law_611 : decode code 611 = .ok (.aload_n 2, 1) := by decide +kernel
theorem d_law_612 : decode code 612 = .ok (.aload_n 0, 1) := by decide +kernel
theorem d_law_613 : decode code 613 = .ok (.iload_n 3, 1) := by decide +kernel
theorem d_law_614 : decode code 614 = .ok (.iconst 1, 1) := by decide +kernel
theorem d_law_615 : decode code 615 = .ok (.iadd, 1) := by decide +kernel
theorem d_law_616 : decode code 616 = .ok (.iaload, 1) := by decide +kernel
theorem d_law_617 : decode code 617 = .ok (.aload_n 0, 1) := by decide +kernel
theorem d_law_618 : decode code 618 = .ok (.iload_n 3, 1) := by decide +kernel
theorem d_law_619 : decode code 619 = .ok (.iconst 2, 1) := by decide +kernel
theorem d_law_620 : decode code 620 = .ok (.iadd, 1) := by decide +kernel
theorem d_law_621 : decode code 621 = .ok (.iaload, 1) := by decide +kernel
theorem d_law_622 : decode code 622 = .ok (.invokevirtual 80, 3) := by decide +kernel
theorem d_law_625 : decode code 625 = .ok (.if_icmp .eq 631, 3) := by decide +kernel
theorem d_law_628 : decode code 628 = .ok (.iconst 0, 1) := by decide +kernel
theorem d_law_629 : decode code 629 = .ok (.ireturn, 1) := by decide +kernel
theorem d_law_630 : decode code 630 = .ok (.aload_n 1, 1) := by decide +kernel
theorem d_law_631 : decode code 631 = .ok (.invokevirtual 81, 3) := by decide +kernel
theorem d_law_634 : decode code 634 = .ok (.aload_n 2, 1) := by decide +kernel
theorem d_law_635 : decode code 635 = .ok (.invokevirtual 84, 3) := by decide +kernel
theorem d_law_638 : decode code 638 = .ok (.if_icmp .eq 618, 3) := by decide +kernel
theorem d_law_641 : decode code 641 = .ok (.iconst 0, 1) := by decide +kernel
theorem d_law_642 : decode code 642 = .ok (.ireturn, 1) := by decide +kernel
theorem d_law_643 : decode code 643 = .ok (.aload_n 1, 1) := by decide +kernel
theorem d_law_644 : decode code 644 = .ok (.invokevirtual 85, 3) := by decide +kernel
theorem d_law_647 : decode code 647 = .ok (.aload_n 2, 1) := by decide +kernel
theorem d_law_648 : decode code 648 = .ok (.invokevirtual 88, 3) := by decide +kernel
theorem d_law_651 : decode code 651 = .ok (.if_icmp .eq 605, 3) := by decide +kernel
theorem d_law_654 : decode code 654 = .ok (.iconst 0, 1) := by decide +kernel
theorem d_law_655 : decode code 655 = .ok (.ireturn, 1) := by decide +kernel
theorem d_law_656 : decode code 656 = .ok (.aload_n 1, 1) := by decide +kernel
theorem d_law_657 : decode code 657 = .ok (.aload_n 0, 1) := by decide +kernel
theorem d_law_658 : decode code 658 = .ok (.iload_n 3, 1) := by decide +kernel
theorem d_law_659 : decode code 659 = .ok (.iconst 1, 1) := by decide +kernel
theorem d_law_660 : decode code 660 = .ok (.iadd, 1) := by decide +kernel
theorem d_law_661 : decode code 661 = .ok (.iaload, 1) := by decide +kernel
theorem d_law_662 : decode code 662 = .ok (.aload_n 0, 1) := by decide +kernel
theorem d_law_663 : decode code 663 = .ok (.iload_n 3, 1) := by decide +kernel
theorem d_law_664 : decode code 664 = .ok (.iconst 2, 1) := by decide +kernel
theorem d_law_665 : decode code 665 = .ok (.iadd, 1) := by decide +kernel
theorem d_law_666 : decode code 666 = .ok (.iaload, 1) := by decide +kernel
theorem d_law_667 : decode code 667 = .ok (.invokevirtual 89, 3) := by decide +kernel
theorem d_law_670 : decode code 670 = .ok (.aload_n 2, 1) := by decide +kernel
theorem d_law_671 : decode code 671 = .ok (.aload_n 0, 1) := by decide +kernel
theorem d_law_672 : decode code 672 = .ok (.iload_n 3, 1) := by decide +kernel
theorem d_law_673 : decode code 673 = .ok (.iconst 1, 1) := by decide +kernel
theorem d_law_674 : decode code 674 = .ok (.iadd, 1) := by decide +kernel
theorem d_law_675 : decode code 675 = .ok (.iaload, 1) := by decide +kernel
theorem d_law_676 : decode code 676 = .ok (.aload_n 0, 1) := by decide +kernel
theorem d_law_677 : decode code 677 = .ok (.iload_n 3, 1) := by decide +kernel
theorem d_law_678 : decode code 678 = .ok (.iconst 2, 1) := by decide +kernel
theorem d_law_679 : decode code 679 = .ok (.iadd, 1) := by decide +kernel
theorem d_law_680 : decode code 680 = .ok (.iaload, 1) := by decide +kernel
theorem d_law_681 : decode code 681 = .ok (.invokevirtual 92, 3) := by decide +kernel
theorem d_law_684 : decode code 684 = .ok (.if_icmp .eq 572, 3) := by decide +kernel
theorem d_law_687 : decode code 687 = .ok (.iconst 0, 1) := by decide +kernel
theorem d_law_688 : decode code 688 = .ok (.ireturn, 1) := by decide +kernel
theorem d_law_689 : decode code 689 = .ok (.aload_n 1, 1) := by decide +kernel
theorem d_law_690 : decode code 690 = .ok (.aload_n 0, 1) := by decide +kernel
theorem d_law_691 : decode code 691 = .ok (.iload_n 3, 1) := by decide +kernel
theorem d_law_692 : decode code 692 = .ok (.iconst 1, 1) := by decide +kernel
theorem d_law_693 : decode code 693 = .ok (.iadd, 1) := by decide +kernel
theorem d_law_694 : decode code 694 = .ok (.iaload, 1) := by decide +kernel
theorem d_law_695 : decode code 695 = .ok (.invokevirtual 93, 3) := by decide +kernel
theorem d_law_698 : decode code 698 = .ok (.aload_n 2, 1) := by decide +kernel
theorem d_law_699 : decode code 699 = .ok (.aload_n 0, 1) := by decide +kernel
theorem d_law_700 : decode code 700 = .ok (.iload_n 3, 1) := by decide +kernel
theorem d_law_701 : decode code 701 = .ok (.iconst 1, 1) := by decide +kernel
theorem d_law_702 : decode code 702 = .ok (.iadd, 1) := by decide +kernel
theorem d_law_703 : decode code 703 = .ok (.iaload, 1) := by decide +kernel
theorem d_law_704 : decode code 704 = .ok (.invokevirtual 96, 3) := by decide +kernel
theorem d_law_707 : decode code 707 = .ok (.if_icmp .eq 549, 3) := by decide +kernel
theorem d_law_710 : decode code 710 = .ok (.iconst 0, 1) := by decide +kernel
theorem d_law_711 : decode code 711 = .ok (.ireturn, 1) := by decide +kernel
theorem d_law_712 : decode code 712 = .ok (.aload_n 1, 1) := by decide +kernel
theorem d_law_713 : decode code 713 = .ok (.aload_n 0, 1) := by decide +kernel
theorem d_law_714 : decode code 714 = .ok (.iload_n 3, 1) := by decide +kernel
theorem d_law_715 : decode code 715 = .ok (.iconst 1, 1) := by decide +kernel
theorem d_law_716 : decode code 716 = .ok (.iadd, 1) := by decide +kernel
theorem d_law_717 : decode code 717 = .ok (.iaload, 1) := by decide +kernel
theorem d_law_718 : decode code 718 = .ok (.aload_n 0, 1) := by decide +kernel
theorem d_law_719 : decode code 719 = .ok (.iload_n 3, 1) := by decide +kernel
theorem d_law_720 : decode code 720 = .ok (.iconst 2, 1) := by decide +kernel
theorem d_law_721 : decode code 721 = .ok (.iadd, 1) := by decide +kernel
theorem d_law_722 : decode code 722 = .ok (.iaload, 1) := by decide +kernel
theorem d_law_723 : decode code 723 = .ok (.invokevirtual 97, 3) := by decide +kernel
theorem d_law_726 : decode code 726 = .ok (.aload_n 2, 1) := by decide +kernel
theorem d_law_727 : decode code 727 = .ok (.aload_n 0, 1) := by decide +kernel
theorem d_law_728 : decode code 728 = .ok (.iload_n 3, 1) := by decide +kernel
theorem d_law_729 : decode code 729 = .ok (.iconst 1, 1) := by decide +kernel
theorem d_law_730 : decode code 730 = .ok (.iadd, 1) := by decide +kernel
theorem d_law_731 : decode code 731 = .ok (.iaload, 1) := by decide +kernel
theorem d_law_732 : decode code 732 = .ok (.aload_n 0, 1) := by decide +kernel
theorem d_law_733 : decode code 733 = .ok (.iload_n 3, 1) := by decide +kernel
theorem d_law_734 : decode code 734 = .ok (.iconst 2, 1) := by decide +kernel
theorem d_law_735 : decode code 735 = .ok (.iadd, 1) := by decide +kernel
theorem d_law_736 : decode code 736 = .ok (.iaload, 1) := by decide +kernel
theorem d_law_737 : decode code 737 = .ok (.invokevirtual 100, 3) := by decide +kernel
theorem d_law_740 : decode code 740 = .ok (.if_icmp .eq 516, 3) := by decide +kernel
theorem d_law_743 : decode code 743 = .ok (.iconst 0, 1) := by decide +kernel
theorem d_law_744 : decode code 744 = .ok (.ireturn, 1) := by decide +kernel
theorem d_law_745 : decode code 745 = .ok (.aload_n 1, 1) := by decide +kernel
theorem d_law_746 : decode code 746 = .ok (.aload_n 0, 1) := by decide +kernel
theorem d_law_747 : decode code 747 = .ok (.iload_n 3, 1) := by decide +kernel
theorem d_law_748 : decode code 748 = .ok (.iconst 1, 1) := by decide +kernel
theorem d_law_749 : decode code 749 = .ok (.iadd, 1) := by decide +kernel
theorem d_law_750 : decode code 750 = .ok (.iaload, 1) := by decide +kernel
theorem d_law_751 : decode code 751 = .ok (.invokevirtual 101, 3) := by decide +kernel
theorem d_law_754 : decode code 754 = .ok (.aload_n 2, 1) := by decide +kernel
theorem d_law_755 : decode code 755 = .ok (.aload_n 0, 1) := by decide +kernel
theorem d_law_756 : decode code 756 = .ok (.iload_n 3, 1) := by decide +kernel
theorem d_law_757 : decode code 757 = .ok (.iconst 1, 1) := by decide +kernel
theorem d_law_758 : decode code 758 = .ok (.iadd, 1) := by decide +kernel
theorem d_law_759 : decode code 759 = .ok (.iaload, 1) := by decide +kernel
theorem d_law_760 : decode code 760 = .ok (.invokevirtual 104, 3) := by decide +kernel
theorem d_law_763 : decode code 763 = .ok (.if_icmp .eq 493, 3) := by decide +kernel
theorem d_law_766 : decode code 766 = .ok (.iconst 0, 1) := by decide +kernel
theorem d_law_767 : decode code 767 = .ok (.ireturn, 1) := by decide +kernel
theorem d_law_768 : decode code 768 = .ok (.aload_n 1, 1) := by decide +kernel
theorem d_law_769 : decode code 769 = .ok (.aload_n 0, 1) := by decide +kernel
theorem d_law_770 : decode code 770 = .ok (.iload_n 3, 1) := by decide +kernel
theorem d_law_771 : decode code 771 = .ok (.iconst 1, 1) := by decide +kernel
theorem d_law_772 : decode code 772 = .ok (.iadd, 1) := by decide +kernel
theorem d_law_773 : decode code 773 = .ok (.iaload, 1) := by decide +kernel
theorem d_law_774 : decode code 774 = .ok (.aload_n 0, 1) := by decide +kernel
theorem d_law_775 : decode code 775 = .ok (.iload_n 3, 1) := by decide +kernel
theorem d_law_776 : decode code 776 = .ok (.iconst 2, 1) := by decide +kernel
theorem d_law_777 : decode code 777 = .ok (.iadd, 1) := by decide +kernel
theorem d_law_778 : decode code 778 = .ok (.iaload, 1) := by decide +kernel
theorem d_law_779 : decode code 779 = .ok (.invokevirtual 105, 3) := by decide +kernel
theorem d_law_782 : decode code 782 = .ok (.aload_n 2, 1) := by decide +kernel
theorem d_law_783 : decode code 783 = .ok (.aload_n 0, 1) := by decide +kernel
theorem d_law_784 : decode code 784 = .ok (.iload_n 3, 1) := by decide +kernel
theorem d_law_785 : decode code 785 = .ok (.iconst 1, 1) := by decide +kernel
theorem d_law_786 : decode code 786 = .ok (.iadd, 1) := by decide +kernel
theorem d_law_787 : decode code 787 = .ok (.iaload, 1) := by decide +kernel
theorem d_law_788 : decode code 788 = .ok (.aload_n 0, 1) := by decide +kernel
theorem d_law_789 : decode code 789 = .ok (.iload_n 3, 1) := by decide +kernel
theorem d_law_790 : decode code 790 = .ok (.iconst 2, 1) := by decide +kernel
theorem d_law_791 : decode code 791 = .ok (.iadd, 1) := by decide +kernel
theorem d_law_792 : decode code 792 = .ok (.iaload, 1) := by decide +kernel
theorem d_law_793 : decode code 793 = .ok (.invokevirtual 108, 3) := by decide +kernel
theorem d_law_796 : decode code 796 = .ok (.if_icmp .eq 460, 3) := by decide +kernel
theorem d_law_799 : decode code 799 = .ok (.iconst 0, 1) := by decide +kernel
theorem d_law_800 : decode code 800 = .ok (.ireturn, 1) := by decide +kernel
theorem d_law_801 : decode code 801 = .ok (.aload_n 1, 1) := by decide +kernel
theorem d_law_802 : decode code 802 = .ok (.aload_n 0, 1) := by decide +kernel
theorem d_law_803 : decode code 803 = .ok (.iload_n 3, 1) := by decide +kernel
theorem d_law_804 : decode code 804 = .ok (.iconst 1, 1) := by decide +kernel
theorem d_law_805 : decode code 805 = .ok (.iadd, 1) := by decide +kernel
theorem d_law_806 : decode code 806 = .ok (.iaload, 1) := by decide +kernel
theorem d_law_807 : decode code 807 = .ok (.aload_n 0, 1) := by decide +kernel
theorem d_law_808 : decode code 808 = .ok (.iload_n 3, 1) := by decide +kernel
theorem d_law_809 : decode code 809 = .ok (.iconst 2, 1) := by decide +kernel
theorem d_law_810 : decode code 810 = .ok (.iadd, 1) := by decide +kernel
theorem d_law_811 : decode code 811 = .ok (.iaload, 1) := by decide +kernel
theorem d_law_812 : decode code 812 = .ok (.invokevirtual 109, 3) := by decide +kernel
theorem d_law_815 : decode code 815 = .ok (.aload_n 2, 1) := by decide +kernel
theorem d_law_816 : decode code 816 = .ok (.aload_n 0, 1) := by decide +kernel
theorem d_law_817 : decode code 817 = .ok (.iload_n 3, 1) := by decide +kernel
theorem d_law_818 : decode code 818 = .ok (.iconst 1, 1) := by decide +kernel
theorem d_law_819 : decode code 819 = .ok (.iadd, 1) := by decide +kernel
theorem d_law_820 : decode code 820 = .ok (.iaload, 1) := by decide +kernel
theorem d_law_821 : decode code 821 = .ok (.aload_n 0, 1) := by decide +kernel
theorem d_law_822 : decode code 822 = .ok (.iload_n 3, 1) := by decide +kernel
theorem d_law_823 : decode code 823 = .ok (.iconst 2, 1) := by decide +kernel
theorem d_law_824 : decode code 824 = .ok (.iadd, 1) := by decide +kernel
theorem d_law_825 : decode code 825 = .ok (.iaload, 1) := by decide +kernel
theorem d_law_826 : decode code 826 = .ok (.invokevirtual 112, 3) := by decide +kernel
theorem d_law_829 : decode code 829 = .ok (.if_icmp .eq 427, 3) := by decide +kernel
theorem d_law_832 : decode code 832 = .ok (.iconst 0, 1) := by decide +kernel
theorem d_law_833 : decode code 833 = .ok (.ireturn, 1) := by decide +kernel
theorem d_law_834 : decode code 834 = .ok (.aload_n 1, 1) := by decide +kernel
theorem d_law_835 : decode code 835 = .ok (.aload_n 0, 1) := by decide +kernel
theorem d_law_836 : decode code 836 = .ok (.iload_n 3, 1) := by decide +kernel
theorem d_law_837 : decode code 837 = .ok (.iconst 1, 1) := by decide +kernel
theorem d_law_838 : decode code 838 = .ok (.iadd, 1) := by decide +kernel
theorem d_law_839 : decode code 839 = .ok (.iaload, 1) := by decide +kernel
theorem d_law_840 : decode code 840 = .ok (.aload_n 0, 1) := by decide +kernel
theorem d_law_841 : decode code 841 = .ok (.iload_n 3, 1) := by decide +kernel
theorem d_law_842 : decode code 842 = .ok (.iconst 2, 1) := by decide +kernel
theorem d_law_843 : decode code 843 = .ok (.iadd, 1) := by decide +kernel
theorem d_law_844 : decode code 844 = .ok (.iaload, 1) := by decide +kernel
theorem d_law_845 : decode code 845 = .ok (.invokevirtual 113, 3) := by decide +kernel
theorem d_law_848 : decode code 848 = .ok (.aload_n 2, 1) := by decide +kernel
theorem d_law_849 : decode code 849 = .ok (.aload_n 0, 1) := by decide +kernel
theorem d_law_850 : decode code 850 = .ok (.iload_n 3, 1) := by decide +kernel
theorem d_law_851 : decode code 851 = .ok (.iconst 1, 1) := by decide +kernel
theorem d_law_852 : decode code 852 = .ok (.iadd, 1) := by decide +kernel
theorem d_law_853 : decode code 853 = .ok (.iaload, 1) := by decide +kernel
theorem d_law_854 : decode code 854 = .ok (.aload_n 0, 1) := by decide +kernel
theorem d_law_855 : decode code 855 = .ok (.iload_n 3, 1) := by decide +kernel
theorem d_law_856 : decode code 856 = .ok (.iconst 2, 1) := by decide +kernel
theorem d_law_857 : decode code 857 = .ok (.iadd, 1) := by decide +kernel
theorem d_law_858 : decode code 858 = .ok (.iaload, 1) := by decide +kernel
theorem d_law_859 : decode code 859 = .ok (.invokevirtual 116, 3) := by decide +kernel
theorem d_law_862 : decode code 862 = .ok (.if_icmp .eq 394, 3) := by decide +kernel
theorem d_law_865 : decode code 865 = .ok (.iconst 0, 1) := by decide +kernel
theorem d_law_866 : decode code 866 = .ok (.ireturn, 1) := by decide +kernel
theorem d_law_867 : decode code 867 = .ok (.aload_n 1, 1) := by decide +kernel
theorem d_law_868 : decode code 868 = .ok (.aload_n 0, 1) := by decide +kernel
theorem d_law_869 : decode code 869 = .ok (.iload_n 3, 1) := by decide +kernel
theorem d_law_870 : decode code 870 = .ok (.iconst 1, 1) := by decide +kernel
theorem d_law_871 : decode code 871 = .ok (.iadd, 1) := by decide +kernel
theorem d_law_872 : decode code 872 = .ok (.iaload, 1) := by decide +kernel
theorem d_law_873 : decode code 873 = .ok (.aload_n 0, 1) := by decide +kernel
theorem d_law_874 : decode code 874 = .ok (.iload_n 3, 1) := by decide +kernel
theorem d_law_875 : decode code 875 = .ok (.iconst 2, 1) := by decide +kernel
theorem d_law_876 : decode code 876 = .ok (.iadd, 1) := by decide +kernel
theorem d_law_877 : decode code 877 = .ok (.iaload, 1) := by decide +kernel
theorem d_law_878 : decode code 878 = .ok (.aload_n 0, 1) := by decide +kernel
theorem d_law_879 : decode code 879 = .ok (.iload_n 3, 1) := by decide +kernel
theorem d_law_880 : decode code 880 = .ok (.iconst 3, 1) := by decide +kernel
theorem d_law_881 : decode code 881 = .ok (.iadd, 1) := by decide +kernel
theorem d_law_882 : decode code 882 = .ok (.iaload, 1) := by decide +kernel
theorem d_law_883 : decode code 883 = .ok (.invokevirtual 117, 3) := by decide +kernel
theorem d_law_886 : decode code 886 = .ok (.aload_n 2, 1) := by decide +kernel
theorem d_law_887 : decode code 887 = .ok (.aload_n 0, 1) := by decide +kernel
theorem d_law_888 : decode code 888 = .ok (.iload_n 3, 1) := by decide +kernel
theorem d_law_889 : decode code 889 = .ok (.iconst 1, 1) := by decide +kernel
theorem d_law_890 : decode code 890 = .ok (.iadd, 1) := by decide +kernel
theorem d_law_891 : decode code 891 = .ok (.iaload, 1) := by decide +kernel
theorem d_law_892 : decode code 892 = .ok (.aload_n 0, 1) := by decide +kernel
theorem d_law_893 : decode code 893 = .ok (.iload_n 3, 1) := by decide +kernel
theorem d_law_894 : decode code 894 = .ok (.iconst 2, 1) := by decide +kernel
theorem d_law_895 : decode code 895 = .ok (.iadd, 1) := by decide +kernel
theorem d_law_896 : decode code 896 = .ok (.iaload, 1) := by decide +kernel
theorem d_law_897 : decode code 897 = .ok (.aload_n 0, 1) := by decide +kernel
theorem d_law_898 : decode code 898 = .ok (.iload_n 3, 1) := by decide +kernel
theorem d_law_899 : decode code 899 = .ok (.iconst 3, 1) := by decide +kernel
theorem d_law_900 : decode code 900 = .ok (.iadd, 1) := by decide +kernel
theorem d_law_901 : decode code 901 = .ok (.iaload, 1) := by decide +kernel
theorem d_law_902 : decode code 902 = .ok (.invokevirtual 121, 3) := by decide +kernel
theorem d_law_905 : decode code 905 = .ok (.if_icmp .eq 351, 3) := by decide +kernel
theorem d_law_908 : decode code 908 = .ok (.iconst 0, 1) := by decide +kernel
theorem d_law_909 : decode code 909 = .ok (.ireturn, 1) := by decide +kernel
theorem d_law_910 : decode code 910 = .ok (.aload_n 1, 1) := by decide +kernel
theorem d_law_911 : decode code 911 = .ok (.invokevirtual 122, 3) := by decide +kernel
theorem d_law_914 : decode code 914 = .ok (.aload_n 2, 1) := by decide +kernel
theorem d_law_915 : decode code 915 = .ok (.invokevirtual 125, 3) := by decide +kernel
theorem d_law_918 : decode code 918 = .ok (.if_icmp .eq 338, 3) := by decide +kernel
theorem d_law_921 : decode code 921 = .ok (.iconst 0, 1) := by decide +kernel
theorem d_law_922 : decode code 922 = .ok (.ireturn, 1) := by decide +kernel
theorem d_law_923 : decode code 923 = .ok (.aload_n 1, 1) := by decide +kernel
theorem d_law_924 : decode code 924 = .ok (.invokevirtual 126, 3) := by decide +kernel
theorem d_law_927 : decode code 927 = .ok (.aload_n 2, 1) := by decide +kernel
theorem d_law_928 : decode code 928 = .ok (.invokevirtual 129, 3) := by decide +kernel
theorem d_law_931 : decode code 931 = .ok (.if_icmp .eq 325, 3) := by decide +kernel
theorem d_law_934 : decode code 934 = .ok (.iconst 0, 1) := by decide +kernel
theorem d_law_935 : decode code 935 = .ok (.ireturn, 1) := by decide +kernel
theorem d_law_936 : decode code 936 = .ok (.aload_n 1, 1) := by decide +kernel
theorem d_law_937 : decode code 937 = .ok (.aload_n 0, 1) := by decide +kernel
theorem d_law_938 : decode code 938 = .ok (.iload_n 3, 1) := by decide +kernel
theorem d_law_939 : decode code 939 = .ok (.iconst 1, 1) := by decide +kernel
theorem d_law_940 : decode code 940 = .ok (.iadd, 1) := by decide +kernel
theorem d_law_941 : decode code 941 = .ok (.iaload, 1) := by decide +kernel
theorem d_law_942 : decode code 942 = .ok (.invokevirtual 130, 3) := by decide +kernel
theorem d_law_945 : decode code 945 = .ok (.aload_n 2, 1) := by decide +kernel
theorem d_law_946 : decode code 946 = .ok (.aload_n 0, 1) := by decide +kernel
theorem d_law_947 : decode code 947 = .ok (.iload_n 3, 1) := by decide +kernel
theorem d_law_948 : decode code 948 = .ok (.iconst 1, 1) := by decide +kernel
theorem d_law_949 : decode code 949 = .ok (.iadd, 1) := by decide +kernel
theorem d_law_950 : decode code 950 = .ok (.iaload, 1) := by decide +kernel
theorem d_law_951 : decode code 951 = .ok (.invokevirtual 133, 3) := by decide +kernel
theorem d_law_954 : decode code 954 = .ok (.if_icmp .eq 302, 3) := by decide +kernel
theorem d_law_957 : decode code 957 = .ok (.iconst 0, 1) := by decide +kernel
theorem d_law_958 : decode code 958 = .ok (.ireturn, 1) := by decide +kernel
theorem d_law_959 : decode code 959 = .ok (.aload_n 1, 1) := by decide +kernel
theorem d_law_960 : decode code 960 = .ok (.aload_n 0, 1) := by decide +kernel
theorem d_law_961 : decode code 961 = .ok (.iload_n 3, 1) := by decide +kernel
theorem d_law_962 : decode code 962 = .ok (.iconst 1, 1) := by decide +kernel
theorem d_law_963 : decode code 963 = .ok (.iadd, 1) := by decide +kernel
theorem d_law_964 : decode code 964 = .ok (.iaload, 1) := by decide +kernel
theorem d_law_965 : decode code 965 = .ok (.aload_n 0, 1) := by decide +kernel
theorem d_law_966 : decode code 966 = .ok (.iload_n 3, 1) := by decide +kernel
theorem d_law_967 : decode code 967 = .ok (.iconst 2, 1) := by decide +kernel
theorem d_law_968 : decode code 968 = .ok (.iadd, 1) := by decide +kernel
theorem d_law_969 : decode code 969 = .ok (.iaload, 1) := by decide +kernel
theorem d_law_970 : decode code 970 = .ok (.invokevirtual 134, 3) := by decide +kernel
theorem d_law_973 : decode code 973 = .ok (.aload_n 2, 1) := by decide +kernel
theorem d_law_974 : decode code 974 = .ok (.aload_n 0, 1) := by decide +kernel
theorem d_law_975 : decode code 975 = .ok (.iload_n 3, 1) := by decide +kernel
theorem d_law_976 : decode code 976 = .ok (.iconst 1, 1) := by decide +kernel
theorem d_law_977 : decode code 977 = .ok (.iadd, 1) := by decide +kernel
theorem d_law_978 : decode code 978 = .ok (.iaload, 1) := by decide +kernel
theorem d_law_979 : decode code 979 = .ok (.aload_n 0, 1) := by decide +kernel
theorem d_law_980 : decode code 980 = .ok (.iload_n 3, 1) := by decide +kernel
theorem d_law_981 : decode code 981 = .ok (.iconst 2, 1) := by decide +kernel
theorem d_law_982 : decode code 982 = .ok (.iadd, 1) := by decide +kernel
theorem d_law_983 : decode code 983 = .ok (.iaload, 1) := by decide +kernel
theorem d_law_984 : decode code 984 = .ok (.invokevirtual 137, 3) := by decide +kernel
theorem d_law_987 : decode code 987 = .ok (.if_icmp .eq 269, 3) := by decide +kernel
theorem d_law_990 : decode code 990 = .ok (.iconst 0, 1) := by decide +kernel
theorem d_law_991 : decode code 991 = .ok (.ireturn, 1) := by decide +kernel
theorem d_law_992 : decode code 992 = .ok (.aload_n 1, 1) := by decide +kernel
theorem d_law_993 : decode code 993 = .ok (.invokevirtual 138, 3) := by decide +kernel
theorem d_law_996 : decode code 996 = .ok (.aload_n 2, 1) := by decide +kernel
theorem d_law_997 : decode code 997 = .ok (.invokevirtual 141, 3) := by decide +kernel
theorem d_law_1000 : decode code 1000 = .ok (.if_icmp .eq 256, 3) := by decide +kernel
theorem d_law_1003 : decode code 1003 = .ok (.iconst 0, 1) := by decide +kernel
theorem d_law_1004 : decode code 1004 = .ok (.ireturn, 1) := by decide +kernel
theorem d_law_1005 : decode code 1005 = .ok (.aload_n 1, 1) := by decide +kernel
theorem d_law_1006 : decode code 1006 = .ok (.invokevirtual 142, 3) := by decide +kernel
theorem d_law_1009 : decode code 1009 = .ok (.aload_n 2, 1) := by decide +kernel
theorem d_law_1010 : decode code 1010 = .ok (.invokevirtual 145, 3) := by decide +kernel
theorem d_law_1013 : decode code 1013 = .ok (.if_icmp .eq 243, 3) := by decide +kernel
theorem d_law_1016 : decode code 1016 = .ok (.iconst 0, 1) := by decide +kernel
theorem d_law_1017 : decode code 1017 = .ok (.ireturn, 1) := by decide +kernel
theorem d_law_1018 : decode code 1018 = .ok (.aload_n 1, 1) := by decide +kernel
theorem d_law_1019 : decode code 1019 = .ok (.aload_n 0, 1) := by decide +kernel
theorem d_law_1020 : decode code 1020 = .ok (.iload_n 3, 1) := by decide +kernel
theorem d_law_1021 : decode code 1021 = .ok (.iconst 1, 1) := by decide +kernel
theorem d_law_1022 : decode code 1022 = .ok (.iadd, 1) := by decide +kernel
theorem d_law_1023 : decode code 1023 = .ok (.iaload, 1) := by decide +kernel
theorem d_law_1024 : decode code 1024 = .ok (.invokevirtual 146, 3) := by decide +kernel
theorem d_law_1027 : decode code 1027 = .ok (.aload_n 2, 1) := by decide +kernel
theorem d_law_1028 : decode code 1028 = .ok (.aload_n 0, 1) := by decide +kernel
theorem d_law_1029 : decode code 1029 = .ok (.iload_n 3, 1) := by decide +kernel
theorem d_law_1030 : decode code 1030 = .ok (.iconst 1, 1) := by decide +kernel
theorem d_law_1031 : decode code 1031 = .ok (.iadd, 1) := by decide +kernel
theorem d_law_1032 : decode code 1032 = .ok (.iaload, 1) := by decide +kernel
theorem d_law_1033 : decode code 1033 = .ok (.invokevirtual 149, 3) := by decide +kernel
theorem d_law_1036 : decode code 1036 = .ok (.if_icmp .eq 220, 3) := by decide +kernel
theorem d_law_1039 : decode code 1039 = .ok (.iconst 0, 1) := by decide +kernel
theorem d_law_1040 : decode code 1040 = .ok (.ireturn, 1) := by decide +kernel
theorem d_law_1041 : decode code 1041 = .ok (.aload_n 1, 1) := by decide +kernel
theorem d_law_1042 : decode code 1042 = .ok (.aload_n 0, 1) := by decide +kernel
theorem d_law_1043 : decode code 1043 = .ok (.iload_n 3, 1) := by decide +kernel
theorem d_law_1044 : decode code 1044 = .ok (.iconst 1, 1) := by decide +kernel
theorem d_law_1045 : decode code 1045 = .ok (.iadd, 1) := by decide +kernel
theorem d_law_1046 : decode code 1046 = .ok (.iaload, 1) := by decide +kernel
theorem d_law_1047 : decode code 1047 = .ok (.aload_n 0, 1) := by decide +kernel
theorem d_law_1048 : decode code 1048 = .ok (.iload_n 3, 1) := by decide +kernel
theorem d_law_1049 : decode code 1049 = .ok (.iconst 2, 1) := by decide +kernel
theorem d_law_1050 : decode code 1050 = .ok (.iadd, 1) := by decide +kernel
theorem d_law_1051 : decode code 1051 = .ok (.iaload, 1) := by decide +kernel
theorem d_law_1052 : decode code 1052 = .ok (.invokevirtual 150, 3) := by decide +kernel
theorem d_law_1055 : decode code 1055 = .ok (.aload_n 2, 1) := by decide +kernel
theorem d_law_1056 : decode code 1056 = .ok (.aload_n 0, 1) := by decide +kernel
theorem d_law_1057 : decode code 1057 = .ok (.iload_n 3, 1) := by decide +kernel
theorem d_law_1058 : decode code 1058 = .ok (.iconst 1, 1) := by decide +kernel
theorem d_law_1059 : decode code 1059 = .ok (.iadd, 1) := by decide +kernel
theorem d_law_1060 : decode code 1060 = .ok (.iaload, 1) := by decide +kernel
theorem d_law_1061 : decode code 1061 = .ok (.aload_n 0, 1) := by decide +kernel
theorem d_law_1062 : decode code 1062 = .ok (.iload_n 3, 1) := by decide +kernel
theorem d_law_1063 : decode code 1063 = .ok (.iconst 2, 1) := by decide +kernel
theorem d_law_1064 : decode code 1064 = .ok (.iadd, 1) := by decide +kernel
theorem d_law_1065 : decode code 1065 = .ok (.iaload, 1) := by decide +kernel
theorem d_law_1066 : decode code 1066 = .ok (.invokevirtual 154, 3) := by decide +kernel
theorem d_law_1069 : decode code 1069 = .ok (.lcmp, 1) := by decide +kernel
theorem d_law_1070 : decode code 1070 = .ok (.ifCond .eq 186, 3) := by decide +kernel
theorem d_law_1073 : decode code 1073 = .ok (.iconst 0, 1) := by decide +kernel
theorem d_law_1074 : decode code 1074 = .ok (.ireturn, 1) := by decide +kernel
theorem d_law_1075 : decode code 1075 = .ok (.aload_n 1, 1) := by decide +kernel
theorem d_law_1076 : decode code 1076 = .ok (.aload_n 0, 1) := by decide +kernel
theorem d_law_1077 : decode code 1077 = .ok (.iload_n 3, 1) := by decide +kernel
theorem d_law_1078 : decode code 1078 = .ok (.iconst 1, 1) := by decide +kernel
theorem d_law_1079 : decode code 1079 = .ok (.iadd, 1) := by decide +kernel
theorem d_law_1080 : decode code 1080 = .ok (.iaload, 1) := by decide +kernel
theorem d_law_1081 : decode code 1081 = .ok (.aload_n 0, 1) := by decide +kernel
theorem d_law_1082 : decode code 1082 = .ok (.iload_n 3, 1) := by decide +kernel
theorem d_law_1083 : decode code 1083 = .ok (.iconst 2, 1) := by decide +kernel
theorem d_law_1084 : decode code 1084 = .ok (.iadd, 1) := by decide +kernel
theorem d_law_1085 : decode code 1085 = .ok (.iaload, 1) := by decide +kernel
theorem d_law_1086 : decode code 1086 = .ok (.invokevirtual 155, 3) := by decide +kernel
theorem d_law_1089 : decode code 1089 = .ok (.aload_n 2, 1) := by decide +kernel
theorem d_law_1090 : decode code 1090 = .ok (.aload_n 0, 1) := by decide +kernel
theorem d_law_1091 : decode code 1091 = .ok (.iload_n 3, 1) := by decide +kernel
theorem d_law_1092 : decode code 1092 = .ok (.iconst 1, 1) := by decide +kernel
theorem d_law_1093 : decode code 1093 = .ok (.iadd, 1) := by decide +kernel
theorem d_law_1094 : decode code 1094 = .ok (.iaload, 1) := by decide +kernel
theorem d_law_1095 : decode code 1095 = .ok (.aload_n 0, 1) := by decide +kernel
theorem d_law_1096 : decode code 1096 = .ok (.iload_n 3, 1) := by decide +kernel
theorem d_law_1097 : decode code 1097 = .ok (.iconst 2, 1) := by decide +kernel
theorem d_law_1098 : decode code 1098 = .ok (.iadd, 1) := by decide +kernel
theorem d_law_1099 : decode code 1099 = .ok (.iaload, 1) := by decide +kernel
theorem d_law_1100 : decode code 1100 = .ok (.invokevirtual 158, 3) := by decide +kernel
theorem d_law_1103 : decode code 1103 = .ok (.if_icmp .eq 153, 3) := by decide +kernel
theorem d_law_1106 : decode code 1106 = .ok (.iconst 0, 1) := by decide +kernel
theorem d_law_1107 : decode code 1107 = .ok (.ireturn, 1) := by decide +kernel
theorem d_law_1108 : decode code 1108 = .ok (.aload_n 1, 1) := by decide +kernel
theorem d_law_1109 : decode code 1109 = .ok (.aload_n 0, 1) := by decide +kernel
theorem d_law_1110 : decode code 1110 = .ok (.iload_n 3, 1) := by decide +kernel
theorem d_law_1111 : decode code 1111 = .ok (.iconst 1, 1) := by decide +kernel
theorem d_law_1112 : decode code 1112 = .ok (.iadd, 1) := by decide +kernel
theorem d_law_1113 : decode code 1113 = .ok (.iaload, 1) := by decide +kernel
theorem d_law_1114 : decode code 1114 = .ok (.aload_n 0, 1) := by decide +kernel
theorem d_law_1115 : decode code 1115 = .ok (.iload_n 3, 1) := by decide +kernel
theorem d_law_1116 : decode code 1116 = .ok (.iconst 2, 1) := by decide +kernel
theorem d_law_1117 : decode code 1117 = .ok (.iadd, 1) := by decide +kernel
theorem d_law_1118 : decode code 1118 = .ok (.iaload, 1) := by decide +kernel
theorem d_law_1119 : decode code 1119 = .ok (.invokevirtual 159, 3) := by decide +kernel
theorem d_law_1122 : decode code 1122 = .ok (.aload_n 2, 1) := by decide +kernel
theorem d_law_1123 : decode code 1123 = .ok (.aload_n 0, 1) := by decide +kernel
theorem d_law_1124 : decode code 1124 = .ok (.iload_n 3, 1) := by decide +kernel
theorem d_law_1125 : decode code 1125 = .ok (.iconst 1, 1) := by decide +kernel
theorem d_law_1126 : decode code 1126 = .ok (.iadd, 1) := by decide +kernel
theorem d_law_1127 : decode code 1127 = .ok (.iaload, 1) := by decide +kernel
theorem d_law_1128 : decode code 1128 = .ok (.aload_n 0, 1) := by decide +kernel
theorem d_law_1129 : decode code 1129 = .ok (.iload_n 3, 1) := by decide +kernel
theorem d_law_1130 : decode code 1130 = .ok (.iconst 2, 1) := by decide +kernel
theorem d_law_1131 : decode code 1131 = .ok (.iadd, 1) := by decide +kernel
theorem d_law_1132 : decode code 1132 = .ok (.iaload, 1) := by decide +kernel
theorem d_law_1133 : decode code 1133 = .ok (.invokevirtual 162, 3) := by decide +kernel
theorem d_law_1136 : decode code 1136 = .ok (.if_icmp .eq 120, 3) := by decide +kernel
theorem d_law_1139 : decode code 1139 = .ok (.iconst 0, 1) := by decide +kernel
theorem d_law_1140 : decode code 1140 = .ok (.ireturn, 1) := by decide +kernel
theorem d_law_1141 : decode code 1141 = .ok (.aload_n 1, 1) := by decide +kernel
theorem d_law_1142 : decode code 1142 = .ok (.aload_n 0, 1) := by decide +kernel
theorem d_law_1143 : decode code 1143 = .ok (.iload_n 3, 1) := by decide +kernel
theorem d_law_1144 : decode code 1144 = .ok (.iconst 1, 1) := by decide +kernel
theorem d_law_1145 : decode code 1145 = .ok (.iadd, 1) := by decide +kernel
theorem d_law_1146 : decode code 1146 = .ok (.iaload, 1) := by decide +kernel
theorem d_law_1147 : decode code 1147 = .ok (.aload_n 0, 1) := by decide +kernel
theorem d_law_1148 : decode code 1148 = .ok (.iload_n 3, 1) := by decide +kernel
theorem d_law_1149 : decode code 1149 = .ok (.iconst 2, 1) := by decide +kernel
theorem d_law_1150 : decode code 1150 = .ok (.iadd, 1) := by decide +kernel
theorem d_law_1151 : decode code 1151 = .ok (.iaload, 1) := by decide +kernel
theorem d_law_1152 : decode code 1152 = .ok (.invokevirtual 163, 3) := by decide +kernel
theorem d_law_1155 : decode code 1155 = .ok (.aload_n 2, 1) := by decide +kernel
theorem d_law_1156 : decode code 1156 = .ok (.aload_n 0, 1) := by decide +kernel
theorem d_law_1157 : decode code 1157 = .ok (.iload_n 3, 1) := by decide +kernel
theorem d_law_1158 : decode code 1158 = .ok (.iconst 1, 1) := by decide +kernel
theorem d_law_1159 : decode code 1159 = .ok (.iadd, 1) := by decide +kernel
theorem d_law_1160 : decode code 1160 = .ok (.iaload, 1) := by decide +kernel
theorem d_law_1161 : decode code 1161 = .ok (.aload_n 0, 1) := by decide +kernel
theorem d_law_1162 : decode code 1162 = .ok (.iload_n 3, 1) := by decide +kernel
theorem d_law_1163 : decode code 1163 = .ok (.iconst 2, 1) := by decide +kernel
theorem d_law_1164 : decode code 1164 = .ok (.iadd, 1) := by decide +kernel
theorem d_law_1165 : decode code 1165 = .ok (.iaload, 1) := by decide +kernel
theorem d_law_1166 : decode code 1166 = .ok (.invokevirtual 166, 3) := by decide +kernel
theorem d_law_1169 : decode code 1169 = .ok (.if_icmp .eq 87, 3) := by decide +kernel
theorem d_law_1172 : decode code 1172 = .ok (.iconst 0, 1) := by decide +kernel
theorem d_law_1173 : decode code 1173 = .ok (.ireturn, 1) := by decide +kernel
theorem d_law_1174 : decode code 1174 = .ok (.aload_n 1, 1) := by decide +kernel
theorem d_law_1175 : decode code 1175 = .ok (.aload_n 0, 1) := by decide +kernel
theorem d_law_1176 : decode code 1176 = .ok (.iload_n 3, 1) := by decide +kernel
theorem d_law_1177 : decode code 1177 = .ok (.iconst 1, 1) := by decide +kernel
theorem d_law_1178 : decode code 1178 = .ok (.iadd, 1) := by decide +kernel
theorem d_law_1179 : decode code 1179 = .ok (.iaload, 1) := by decide +kernel
theorem d_law_1180 : decode code 1180 = .ok (.invokevirtual 167, 3) := by decide +kernel
theorem d_law_1183 : decode code 1183 = .ok (.aload_n 2, 1) := by decide +kernel
theorem d_law_1184 : decode code 1184 = .ok (.aload_n 0, 1) := by decide +kernel
theorem d_law_1185 : decode code 1185 = .ok (.iload_n 3, 1) := by decide +kernel
theorem d_law_1186 : decode code 1186 = .ok (.iconst 1, 1) := by decide +kernel
theorem d_law_1187 : decode code 1187 = .ok (.iadd, 1) := by decide +kernel
theorem d_law_1188 : decode code 1188 = .ok (.iaload, 1) := by decide +kernel
theorem d_law_1189 : decode code 1189 = .ok (.invokevirtual 170, 3) := by decide +kernel
theorem d_law_1192 : decode code 1192 = .ok (.if_icmp .eq 64, 3) := by decide +kernel
theorem d_law_1195 : decode code 1195 = .ok (.iconst 0, 1) := by decide +kernel
theorem d_law_1196 : decode code 1196 = .ok (.ireturn, 1) := by decide +kernel
theorem d_law_1197 : decode code 1197 = .ok (.aload_n 1, 1) := by decide +kernel
theorem d_law_1198 : decode code 1198 = .ok (.aload_n 0, 1) := by decide +kernel
theorem d_law_1199 : decode code 1199 = .ok (.iload_n 3, 1) := by decide +kernel
theorem d_law_1200 : decode code 1200 = .ok (.iconst 1, 1) := by decide +kernel
theorem d_law_1201 : decode code 1201 = .ok (.iadd, 1) := by decide +kernel
theorem d_law_1202 : decode code 1202 = .ok (.iaload, 1) := by decide +kernel
theorem d_law_1203 : decode code 1203 = .ok (.invokevirtual 171, 3) := by decide +kernel
theorem d_law_1206 : decode code 1206 = .ok (.aload_n 2, 1) := by decide +kernel
theorem d_law_1207 : decode code 1207 = .ok (.aload_n 0, 1) := by decide +kernel
theorem d_law_1208 : decode code 1208 = .ok (.iload_n 3, 1) := by decide +kernel
theorem d_law_1209 : decode code 1209 = .ok (.iconst 1, 1) := by decide +kernel
theorem d_law_1210 : decode code 1210 = .ok (.iadd, 1) := by decide +kernel
theorem d_law_1211 : decode code 1211 = .ok (.iaload, 1) := by decide +kernel
theorem d_law_1212 : decode code 1212 = .ok (.invokevirtual 174, 3) := by decide +kernel
theorem d_law_1215 : decode code 1215 = .ok (.if_icmp .eq 41, 3) := by decide +kernel
theorem d_law_1218 : decode code 1218 = .ok (.iconst 0, 1) := by decide +kernel
theorem d_law_1219 : decode code 1219 = .ok (.ireturn, 1) := by decide +kernel
theorem d_law_1220 : decode code 1220 = .ok (.aload_n 1, 1) := by decide +kernel
theorem d_law_1221 : decode code 1221 = .ok (.aload_n 0, 1) := by decide +kernel
theorem d_law_1222 : decode code 1222 = .ok (.iload_n 3, 1) := by decide +kernel
theorem d_law_1223 : decode code 1223 = .ok (.iconst 1, 1) := by decide +kernel
theorem d_law_1224 : decode code 1224 = .ok (.iadd, 1) := by decide +kernel
theorem d_law_1225 : decode code 1225 = .ok (.iaload, 1) := by decide +kernel
theorem d_law_1226 : decode code 1226 = .ok (.invokevirtual 175, 3) := by decide +kernel
theorem d_law_1229 : decode code 1229 = .ok (.aload_n 2, 1) := by decide +kernel
theorem d_law_1230 : decode code 1230 = .ok (.aload_n 0, 1) := by decide +kernel
theorem d_law_1231 : decode code 1231 = .ok (.iload_n 3, 1) := by decide +kernel
theorem d_law_1232 : decode code 1232 = .ok (.iconst 1, 1) := by decide +kernel
theorem d_law_1233 : decode code 1233 = .ok (.iadd, 1) := by decide +kernel
theorem d_law_1234 : decode code 1234 = .ok (.iaload, 1) := by decide +kernel
theorem d_law_1235 : decode code 1235 = .ok (.invokevirtual 178, 3) := by decide +kernel
theorem d_law_1238 : decode code 1238 = .ok (.if_icmp .eq 18, 3) := by decide +kernel
theorem d_law_1241 : decode code 1241 = .ok (.iconst 0, 1) := by decide +kernel
theorem d_law_1242 : decode code 1242 = .ok (.ireturn, 1) := by decide +kernel
theorem d_law_1243 : decode code 1243 = .ok (.aload_n 1, 1) := by decide +kernel
theorem d_law_1244 : decode code 1244 = .ok (.invokevirtual 179, 3) := by decide +kernel
theorem d_law_1247 : decode code 1247 = .ok (.aload_n 2, 1) := by decide +kernel
theorem d_law_1248 : decode code 1248 = .ok (.invokevirtual 182, 3) := by decide +kernel
theorem d_law_1251 : decode code 1251 = .ok (.if_icmp .eq 5, 3) := by decide +kernel
theorem d_law_1254 : decode code 1254 = .ok (.iconst 0, 1) := by decide +kernel
theorem d_law_1255 : decode code 1255 = .ok (.ireturn, 1) := by decide +kernel
theorem d_law_1256 : decode code 1256 = .ok (.iinc 3 6, 3) := by decide +kernel
theorem d_law_1259 : decode code 1259 = .ok (.goto (-1241), 3) := by decide +kernel
theorem d_law_1262 : decode code 1262 = .ok (.iconst 1, 1) := by decide +kernel
theorem d_law_1263 : decode code 1263 = .ok (.ireturn, 1) := by decide +kernel
theorem wl_9 : Cond.methodLink R_law 9 (ynOf 103) ∈ gw := gw_of (tb_1 _ (List.mem_of_getElem? (i := 23) rfl)) rfl
theorem wi_103 : Cond.instanceMethod (ynOf 103) ∈ gw := gw_of (tb_1 _ (List.mem_of_getElem? (i := 24) rfl)) rfl
theorem wc_103 : Cond.code (ynOf 103) (bcOf 103) (mlOf 103) (rtOf 103) ∈ gw := gw_of (tb_1 _ (List.mem_of_getElem? (i := 25) rfl)) rfl
theorem wl_12 : Cond.methodLink R_law 12 (ynOf 164) ∈ gw := gw_of (tb_5 _ (List.mem_of_getElem? (i := 161) rfl)) rfl
theorem wi_164 : Cond.instanceMethod (ynOf 164) ∈ gw := gw_of (tb_5 _ (List.mem_of_getElem? (i := 162) rfl)) rfl
theorem wc_164 : Cond.code (ynOf 164) (bcOf 164) (mlOf 164) (rtOf 164) ∈ gw := gw_of (tb_5 _ (List.mem_of_getElem? (i := 163) rfl)) rfl
theorem wl_13 : Cond.methodLink R_law 13 (ynOf 104) ∈ gw := gw_of (tb_2 _ (List.mem_of_getElem? (i := 178) rfl)) rfl
theorem wi_104 : Cond.instanceMethod (ynOf 104) ∈ gw := gw_of (tb_2 _ (List.mem_of_getElem? (i := 179) rfl)) rfl
theorem ws_104 : Cond.selects RX11 (ynOf 104) (ynOf 104) ∈ gw := gw_of (tb_2 _ (List.mem_of_getElem? (i := 180) rfl)) rfl
theorem wc_104 : Cond.code (ynOf 104) (bcOf 104) (mlOf 104) (rtOf 104) ∈ gw := gw_of (tb_2 _ (List.mem_of_getElem? (i := 181) rfl)) rfl
theorem wl_17 : Cond.methodLink R_law 17 (ynOf 184) ∈ gw := gw_of (tb_6 _ (List.mem_of_getElem? (i := 147) rfl)) rfl
theorem wi_184 : Cond.instanceMethod (ynOf 184) ∈ gw := gw_of (tb_6 _ (List.mem_of_getElem? (i := 148) rfl)) rfl
theorem ws_184 : Cond.selects RX12 (ynOf 184) (ynOf 184) ∈ gw := gw_of (tb_6 _ (List.mem_of_getElem? (i := 149) rfl)) rfl
theorem wc_184 : Cond.code (ynOf 184) (bcOf 184) (mlOf 184) (rtOf 184) ∈ gw := gw_of (tb_6 _ (List.mem_of_getElem? (i := 150) rfl)) rfl
theorem wl_18 : Cond.methodLink R_law 18 (ynOf 105) ∈ gw := gw_of (tb_3 _ (List.mem_of_getElem? (i := 10) rfl)) rfl
theorem wi_105 : Cond.instanceMethod (ynOf 105) ∈ gw := gw_of (tb_3 _ (List.mem_of_getElem? (i := 11) rfl)) rfl
theorem ws_105 : Cond.selects RX11 (ynOf 105) (ynOf 105) ∈ gw := gw_of (tb_3 _ (List.mem_of_getElem? (i := 12) rfl)) rfl
theorem wc_105 : Cond.code (ynOf 105) (bcOf 105) (mlOf 105) (rtOf 105) ∈ gw := gw_of (tb_3 _ (List.mem_of_getElem? (i := 13) rfl)) rfl
theorem wl_21 : Cond.methodLink R_law 21 (ynOf 186) ∈ gw := gw_of (tb_6 _ (List.mem_of_getElem? (i := 205) rfl)) rfl
theorem wi_186 : Cond.instanceMethod (ynOf 186) ∈ gw := gw_of (tb_6 _ (List.mem_of_getElem? (i := 206) rfl)) rfl
theorem ws_186 : Cond.selects RX12 (ynOf 186) (ynOf 186) ∈ gw := gw_of (tb_6 _ (List.mem_of_getElem? (i := 207) rfl)) rfl
theorem wc_186 : Cond.code (ynOf 186) (bcOf 186) (mlOf 186) (rtOf 186) ∈ gw := gw_of (tb_6 _ (List.mem_of_getElem? (i := 208) rfl)) rfl
theorem wl_22 : Cond.methodLink R_law 22 (ynOf 106) ∈ gw := gw_of (tb_3 _ (List.mem_of_getElem? (i := 26) rfl)) rfl
theorem wi_106 : Cond.instanceMethod (ynOf 106) ∈ gw := gw_of (tb_3 _ (List.mem_of_getElem? (i := 27) rfl)) rfl
theorem ws_106 : Cond.selects RX11 (ynOf 106) (ynOf 106) ∈ gw := gw_of (tb_3 _ (List.mem_of_getElem? (i := 28) rfl)) rfl
theorem wc_106 : Cond.code (ynOf 106) (bcOf 106) (mlOf 106) (rtOf 106) ∈ gw := gw_of (tb_3 _ (List.mem_of_getElem? (i := 29) rfl)) rfl
theorem wl_25 : Cond.methodLink R_law 25 (ynOf 187) ∈ gw := gw_of (tb_6 _ (List.mem_of_getElem? (i := 213) rfl)) rfl
theorem wi_187 : Cond.instanceMethod (ynOf 187) ∈ gw := gw_of (tb_6 _ (List.mem_of_getElem? (i := 214) rfl)) rfl
theorem ws_187 : Cond.selects RX12 (ynOf 187) (ynOf 187) ∈ gw := gw_of (tb_6 _ (List.mem_of_getElem? (i := 215) rfl)) rfl
theorem wc_187 : Cond.code (ynOf 187) (bcOf 187) (mlOf 187) (rtOf 187) ∈ gw := gw_of (tb_6 _ (List.mem_of_getElem? (i := 216) rfl)) rfl
theorem wl_26 : Cond.methodLink R_law 26 (ynOf 107) ∈ gw := gw_of (tb_3 _ (List.mem_of_getElem? (i := 37) rfl)) rfl
theorem wi_107 : Cond.instanceMethod (ynOf 107) ∈ gw := gw_of (tb_3 _ (List.mem_of_getElem? (i := 38) rfl)) rfl
theorem ws_107 : Cond.selects RX11 (ynOf 107) (ynOf 107) ∈ gw := gw_of (tb_3 _ (List.mem_of_getElem? (i := 39) rfl)) rfl
theorem wc_107 : Cond.code (ynOf 107) (bcOf 107) (mlOf 107) (rtOf 107) ∈ gw := gw_of (tb_3 _ (List.mem_of_getElem? (i := 40) rfl)) rfl
theorem wl_29 : Cond.methodLink R_law 29 (ynOf 188) ∈ gw := gw_of (tb_6 _ (List.mem_of_getElem? (i := 221) rfl)) rfl
theorem wi_188 : Cond.instanceMethod (ynOf 188) ∈ gw := gw_of (tb_6 _ (List.mem_of_getElem? (i := 222) rfl)) rfl
theorem ws_188 : Cond.selects RX12 (ynOf 188) (ynOf 188) ∈ gw := gw_of (tb_6 _ (List.mem_of_getElem? (i := 223) rfl)) rfl
theorem wc_188 : Cond.code (ynOf 188) (bcOf 188) (mlOf 188) (rtOf 188) ∈ gw := gw_of (tb_6 _ (List.mem_of_getElem? (i := 224) rfl)) rfl
theorem wl_30 : Cond.methodLink R_law 30 (ynOf 109) ∈ gw := gw_of (tb_3 _ (List.mem_of_getElem? (i := 49) rfl)) rfl
theorem wi_109 : Cond.instanceMethod (ynOf 109) ∈ gw := gw_of (tb_3 _ (List.mem_of_getElem? (i := 50) rfl)) rfl
theorem ws_109 : Cond.selects RX11 (ynOf 109) (ynOf 109) ∈ gw := gw_of (tb_3 _ (List.mem_of_getElem? (i := 51) rfl)) rfl
theorem wc_109 : Cond.code (ynOf 109) (bcOf 109) (mlOf 109) (rtOf 109) ∈ gw := gw_of (tb_3 _ (List.mem_of_getElem? (i := 52) rfl)) rfl
theorem wl_34 : Cond.methodLink R_law 34 (ynOf 192) ∈ gw := gw_of (tb_7 _ (List.mem_of_getElem? (i := 0) rfl)) rfl
theorem wi_192 : Cond.instanceMethod (ynOf 192) ∈ gw := gw_of (tb_7 _ (List.mem_of_getElem? (i := 1) rfl)) rfl
theorem ws_192 : Cond.selects RX12 (ynOf 192) (ynOf 192) ∈ gw := gw_of (tb_7 _ (List.mem_of_getElem? (i := 2) rfl)) rfl
theorem wc_192 : Cond.code (ynOf 192) (bcOf 192) (mlOf 192) (rtOf 192) ∈ gw := gw_of (tb_7 _ (List.mem_of_getElem? (i := 3) rfl)) rfl
theorem wl_35 : Cond.methodLink R_law 35 (ynOf 110) ∈ gw := gw_of (tb_3 _ (List.mem_of_getElem? (i := 61) rfl)) rfl
theorem wi_110 : Cond.instanceMethod (ynOf 110) ∈ gw := gw_of (tb_3 _ (List.mem_of_getElem? (i := 62) rfl)) rfl
theorem ws_110 : Cond.selects RX11 (ynOf 110) (ynOf 110) ∈ gw := gw_of (tb_3 _ (List.mem_of_getElem? (i := 63) rfl)) rfl
theorem wc_110 : Cond.code (ynOf 110) (bcOf 110) (mlOf 110) (rtOf 110) ∈ gw := gw_of (tb_3 _ (List.mem_of_getElem? (i := 64) rfl)) rfl
theorem wl_39 : Cond.methodLink R_law 39 (ynOf 193) ∈ gw := gw_of (tb_7 _ (List.mem_of_getElem? (i := 8) rfl)) rfl
theorem wi_193 : Cond.instanceMethod (ynOf 193) ∈ gw := gw_of (tb_7 _ (List.mem_of_getElem? (i := 9) rfl)) rfl
theorem ws_193 : Cond.selects RX12 (ynOf 193) (ynOf 193) ∈ gw := gw_of (tb_7 _ (List.mem_of_getElem? (i := 10) rfl)) rfl
theorem wc_193 : Cond.code (ynOf 193) (bcOf 193) (mlOf 193) (rtOf 193) ∈ gw := gw_of (tb_7 _ (List.mem_of_getElem? (i := 11) rfl)) rfl
theorem wl_40 : Cond.methodLink R_law 40 (ynOf 111) ∈ gw := gw_of (tb_3 _ (List.mem_of_getElem? (i := 65) rfl)) rfl
theorem wi_111 : Cond.instanceMethod (ynOf 111) ∈ gw := gw_of (tb_3 _ (List.mem_of_getElem? (i := 66) rfl)) rfl
theorem ws_111 : Cond.selects RX11 (ynOf 111) (ynOf 111) ∈ gw := gw_of (tb_3 _ (List.mem_of_getElem? (i := 67) rfl)) rfl
theorem wc_111 : Cond.code (ynOf 111) (bcOf 111) (mlOf 111) (rtOf 111) ∈ gw := gw_of (tb_3 _ (List.mem_of_getElem? (i := 68) rfl)) rfl
theorem wl_44 : Cond.methodLink R_law 44 (ynOf 189) ∈ gw := gw_of (tb_6 _ (List.mem_of_getElem? (i := 232) rfl)) rfl
theorem wi_189 : Cond.instanceMethod (ynOf 189) ∈ gw := gw_of (tb_6 _ (List.mem_of_getElem? (i := 233) rfl)) rfl
theorem ws_189 : Cond.selects RX12 (ynOf 189) (ynOf 189) ∈ gw := gw_of (tb_6 _ (List.mem_of_getElem? (i := 234) rfl)) rfl
theorem wc_189 : Cond.code (ynOf 189) (bcOf 189) (mlOf 189) (rtOf 189) ∈ gw := gw_of (tb_6 _ (List.mem_of_getElem? (i := 235) rfl)) rfl
theorem wl_45 : Cond.methodLink R_law 45 (ynOf 113) ∈ gw := gw_of (tb_3 _ (List.mem_of_getElem? (i := 73) rfl)) rfl
theorem wi_113 : Cond.instanceMethod (ynOf 113) ∈ gw := gw_of (tb_3 _ (List.mem_of_getElem? (i := 74) rfl)) rfl
theorem ws_113 : Cond.selects RX11 (ynOf 113) (ynOf 113) ∈ gw := gw_of (tb_3 _ (List.mem_of_getElem? (i := 75) rfl)) rfl
theorem wc_113 : Cond.code (ynOf 113) (bcOf 113) (mlOf 113) (rtOf 113) ∈ gw := gw_of (tb_3 _ (List.mem_of_getElem? (i := 76) rfl)) rfl
theorem wl_48 : Cond.methodLink R_law 48 (ynOf 190) ∈ gw := gw_of (tb_6 _ (List.mem_of_getElem? (i := 236) rfl)) rfl
theorem wi_190 : Cond.instanceMethod (ynOf 190) ∈ gw := gw_of (tb_6 _ (List.mem_of_getElem? (i := 237) rfl)) rfl
theorem ws_190 : Cond.selects RX12 (ynOf 190) (ynOf 190) ∈ gw := gw_of (tb_6 _ (List.mem_of_getElem? (i := 238) rfl)) rfl
theorem wc_190 : Cond.code (ynOf 190) (bcOf 190) (mlOf 190) (rtOf 190) ∈ gw := gw_of (tb_6 _ (List.mem_of_getElem? (i := 239) rfl)) rfl
theorem wl_49 : Cond.methodLink R_law 49 (ynOf 114) ∈ gw := gw_of (tb_3 _ (List.mem_of_getElem? (i := 77) rfl)) rfl
theorem wi_114 : Cond.instanceMethod (ynOf 114) ∈ gw := gw_of (tb_3 _ (List.mem_of_getElem? (i := 78) rfl)) rfl
theorem ws_114 : Cond.selects RX11 (ynOf 114) (ynOf 114) ∈ gw := gw_of (tb_3 _ (List.mem_of_getElem? (i := 79) rfl)) rfl
theorem wc_114 : Cond.code (ynOf 114) (bcOf 114) (mlOf 114) (rtOf 114) ∈ gw := gw_of (tb_3 _ (List.mem_of_getElem? (i := 80) rfl)) rfl
theorem wl_52 : Cond.methodLink R_law 52 (ynOf 221) ∈ gw := gw_of (tb_7 _ (List.mem_of_getElem? (i := 16) rfl)) rfl
theorem wi_221 : Cond.instanceMethod (ynOf 221) ∈ gw := gw_of (tb_7 _ (List.mem_of_getElem? (i := 17) rfl)) rfl
theorem ws_221 : Cond.selects RX12 (ynOf 221) (ynOf 221) ∈ gw := gw_of (tb_7 _ (List.mem_of_getElem? (i := 18) rfl)) rfl
theorem wc_221 : Cond.code (ynOf 221) (bcOf 221) (mlOf 221) (rtOf 221) ∈ gw := gw_of (tb_7 _ (List.mem_of_getElem? (i := 19) rfl)) rfl
theorem wl_53 : Cond.methodLink R_law 53 (ynOf 115) ∈ gw := gw_of (tb_4 _ (List.mem_of_getElem? (i := 59) rfl)) rfl
theorem wi_115 : Cond.instanceMethod (ynOf 115) ∈ gw := gw_of (tb_4 _ (List.mem_of_getElem? (i := 60) rfl)) rfl
theorem ws_115 : Cond.selects RX11 (ynOf 115) (ynOf 115) ∈ gw := gw_of (tb_4 _ (List.mem_of_getElem? (i := 61) rfl)) rfl
theorem wc_115 : Cond.code (ynOf 115) (bcOf 115) (mlOf 115) (rtOf 115) ∈ gw := gw_of (tb_4 _ (List.mem_of_getElem? (i := 62) rfl)) rfl
theorem wl_56 : Cond.methodLink R_law 56 (ynOf 278) ∈ gw := gw_of (tb_8 _ (List.mem_of_getElem? (i := 85) rfl)) rfl
theorem wi_278 : Cond.instanceMethod (ynOf 278) ∈ gw := gw_of (tb_8 _ (List.mem_of_getElem? (i := 86) rfl)) rfl
theorem ws_278 : Cond.selects RX12 (ynOf 278) (ynOf 278) ∈ gw := gw_of (tb_8 _ (List.mem_of_getElem? (i := 87) rfl)) rfl
theorem wc_278 : Cond.code (ynOf 278) (bcOf 278) (mlOf 278) (rtOf 278) ∈ gw := gw_of (tb_8 _ (List.mem_of_getElem? (i := 88) rfl)) rfl
theorem wl_57 : Cond.methodLink R_law 57 (ynOf 118) ∈ gw := gw_of (tb_4 _ (List.mem_of_getElem? (i := 117) rfl)) rfl
theorem wi_118 : Cond.instanceMethod (ynOf 118) ∈ gw := gw_of (tb_4 _ (List.mem_of_getElem? (i := 118) rfl)) rfl
theorem ws_118 : Cond.selects RX11 (ynOf 118) (ynOf 118) ∈ gw := gw_of (tb_4 _ (List.mem_of_getElem? (i := 119) rfl)) rfl
theorem wc_118 : Cond.code (ynOf 118) (bcOf 118) (mlOf 118) (rtOf 118) ∈ gw := gw_of (tb_4 _ (List.mem_of_getElem? (i := 120) rfl)) rfl
theorem wl_60 : Cond.methodLink R_law 60 (ynOf 202) ∈ gw := gw_of (tb_7 _ (List.mem_of_getElem? (i := 12) rfl)) rfl
theorem wi_202 : Cond.instanceMethod (ynOf 202) ∈ gw := gw_of (tb_7 _ (List.mem_of_getElem? (i := 13) rfl)) rfl
theorem ws_202 : Cond.selects RX12 (ynOf 202) (ynOf 202) ∈ gw := gw_of (tb_7 _ (List.mem_of_getElem? (i := 14) rfl)) rfl
theorem wc_202 : Cond.code (ynOf 202) (bcOf 202) (mlOf 202) (rtOf 202) ∈ gw := gw_of (tb_7 _ (List.mem_of_getElem? (i := 15) rfl)) rfl
theorem wl_61 : Cond.methodLink R_law 61 (ynOf 119) ∈ gw := gw_of (tb_4 _ (List.mem_of_getElem? (i := 121) rfl)) rfl
theorem wi_119 : Cond.instanceMethod (ynOf 119) ∈ gw := gw_of (tb_4 _ (List.mem_of_getElem? (i := 122) rfl)) rfl
theorem ws_119 : Cond.selects RX11 (ynOf 119) (ynOf 119) ∈ gw := gw_of (tb_4 _ (List.mem_of_getElem? (i := 123) rfl)) rfl
theorem wc_119 : Cond.code (ynOf 119) (bcOf 119) (mlOf 119) (rtOf 119) ∈ gw := gw_of (tb_4 _ (List.mem_of_getElem? (i := 124) rfl)) rfl
theorem wl_64 : Cond.methodLink R_law 64 (ynOf 280) ∈ gw := gw_of (tb_8 _ (List.mem_of_getElem? (i := 118) rfl)) rfl
theorem wi_280 : Cond.instanceMethod (ynOf 280) ∈ gw := gw_of (tb_8 _ (List.mem_of_getElem? (i := 119) rfl)) rfl
theorem ws_280 : Cond.selects RX12 (ynOf 280) (ynOf 280) ∈ gw := gw_of (tb_8 _ (List.mem_of_getElem? (i := 120) rfl)) rfl
theorem wc_280 : Cond.code (ynOf 280) (bcOf 280) (mlOf 280) (rtOf 280) ∈ gw := gw_of (tb_8 _ (List.mem_of_getElem? (i := 121) rfl)) rfl
theorem wl_65 : Cond.methodLink R_law 65 (ynOf 120) ∈ gw := gw_of (tb_4 _ (List.mem_of_getElem? (i := 125) rfl)) rfl
theorem wi_120 : Cond.instanceMethod (ynOf 120) ∈ gw := gw_of (tb_4 _ (List.mem_of_getElem? (i := 126) rfl)) rfl
theorem ws_120 : Cond.selects RX11 (ynOf 120) (ynOf 120) ∈ gw := gw_of (tb_4 _ (List.mem_of_getElem? (i := 127) rfl)) rfl
theorem wc_120 : Cond.code (ynOf 120) (bcOf 120) (mlOf 120) (rtOf 120) ∈ gw := gw_of (tb_4 _ (List.mem_of_getElem? (i := 128) rfl)) rfl
theorem wl_68 : Cond.methodLink R_law 68 (ynOf 223) ∈ gw := gw_of (tb_7 _ (List.mem_of_getElem? (i := 133) rfl)) rfl
theorem wi_223 : Cond.instanceMethod (ynOf 223) ∈ gw := gw_of (tb_7 _ (List.mem_of_getElem? (i := 134) rfl)) rfl
theorem ws_223 : Cond.selects RX12 (ynOf 223) (ynOf 223) ∈ gw := gw_of (tb_7 _ (List.mem_of_getElem? (i := 135) rfl)) rfl
theorem wc_223 : Cond.code (ynOf 223) (bcOf 223) (mlOf 223) (rtOf 223) ∈ gw := gw_of (tb_7 _ (List.mem_of_getElem? (i := 136) rfl)) rfl
theorem wl_69 : Cond.methodLink R_law 69 (ynOf 122) ∈ gw := gw_of (tb_4 _ (List.mem_of_getElem? (i := 133) rfl)) rfl
theorem wi_122 : Cond.instanceMethod (ynOf 122) ∈ gw := gw_of (tb_4 _ (List.mem_of_getElem? (i := 134) rfl)) rfl
theorem ws_122 : Cond.selects RX11 (ynOf 122) (ynOf 122) ∈ gw := gw_of (tb_4 _ (List.mem_of_getElem? (i := 135) rfl)) rfl
theorem wc_122 : Cond.code (ynOf 122) (bcOf 122) (mlOf 122) (rtOf 122) ∈ gw := gw_of (tb_4 _ (List.mem_of_getElem? (i := 136) rfl)) rfl
theorem wl_72 : Cond.methodLink R_law 72 (ynOf 232) ∈ gw := gw_of (tb_7 _ (List.mem_of_getElem? (i := 141) rfl)) rfl
theorem wi_232 : Cond.instanceMethod (ynOf 232) ∈ gw := gw_of (tb_7 _ (List.mem_of_getElem? (i := 142) rfl)) rfl
theorem ws_232 : Cond.selects RX12 (ynOf 232) (ynOf 232) ∈ gw := gw_of (tb_7 _ (List.mem_of_getElem? (i := 143) rfl)) rfl
theorem wc_232 : Cond.code (ynOf 232) (bcOf 232) (mlOf 232) (rtOf 232) ∈ gw := gw_of (tb_7 _ (List.mem_of_getElem? (i := 144) rfl)) rfl
theorem wl_73 : Cond.methodLink R_law 73 (ynOf 123) ∈ gw := gw_of (tb_4 _ (List.mem_of_getElem? (i := 143) rfl)) rfl
theorem wi_123 : Cond.instanceMethod (ynOf 123) ∈ gw := gw_of (tb_4 _ (List.mem_of_getElem? (i := 144) rfl)) rfl
theorem ws_123 : Cond.selects RX11 (ynOf 123) (ynOf 123) ∈ gw := gw_of (tb_4 _ (List.mem_of_getElem? (i := 145) rfl)) rfl
theorem wc_123 : Cond.code (ynOf 123) (bcOf 123) (mlOf 123) (rtOf 123) ∈ gw := gw_of (tb_4 _ (List.mem_of_getElem? (i := 146) rfl)) rfl
theorem wl_76 : Cond.methodLink R_law 76 (ynOf 234) ∈ gw := gw_of (tb_7 _ (List.mem_of_getElem? (i := 157) rfl)) rfl
theorem wi_234 : Cond.instanceMethod (ynOf 234) ∈ gw := gw_of (tb_7 _ (List.mem_of_getElem? (i := 158) rfl)) rfl
theorem ws_234 : Cond.selects RX12 (ynOf 234) (ynOf 234) ∈ gw := gw_of (tb_7 _ (List.mem_of_getElem? (i := 159) rfl)) rfl
theorem wc_234 : Cond.code (ynOf 234) (bcOf 234) (mlOf 234) (rtOf 234) ∈ gw := gw_of (tb_7 _ (List.mem_of_getElem? (i := 160) rfl)) rfl
theorem wl_77 : Cond.methodLink R_law 77 (ynOf 124) ∈ gw := gw_of (tb_4 _ (List.mem_of_getElem? (i := 147) rfl)) rfl
theorem wi_124 : Cond.instanceMethod (ynOf 124) ∈ gw := gw_of (tb_4 _ (List.mem_of_getElem? (i := 148) rfl)) rfl
theorem ws_124 : Cond.selects RX11 (ynOf 124) (ynOf 124) ∈ gw := gw_of (tb_4 _ (List.mem_of_getElem? (i := 149) rfl)) rfl
theorem wc_124 : Cond.code (ynOf 124) (bcOf 124) (mlOf 124) (rtOf 124) ∈ gw := gw_of (tb_4 _ (List.mem_of_getElem? (i := 150) rfl)) rfl
theorem wl_80 : Cond.methodLink R_law 80 (ynOf 237) ∈ gw := gw_of (tb_7 _ (List.mem_of_getElem? (i := 165) rfl)) rfl
theorem wi_237 : Cond.instanceMethod (ynOf 237) ∈ gw := gw_of (tb_7 _ (List.mem_of_getElem? (i := 166) rfl)) rfl
theorem ws_237 : Cond.selects RX12 (ynOf 237) (ynOf 237) ∈ gw := gw_of (tb_7 _ (List.mem_of_getElem? (i := 167) rfl)) rfl
theorem wc_237 : Cond.code (ynOf 237) (bcOf 237) (mlOf 237) (rtOf 237) ∈ gw := gw_of (tb_7 _ (List.mem_of_getElem? (i := 168) rfl)) rfl
theorem wl_81 : Cond.methodLink R_law 81 (ynOf 125) ∈ gw := gw_of (tb_4 _ (List.mem_of_getElem? (i := 151) rfl)) rfl
theorem wi_125 : Cond.instanceMethod (ynOf 125) ∈ gw := gw_of (tb_4 _ (List.mem_of_getElem? (i := 152) rfl)) rfl
theorem ws_125 : Cond.selects RX11 (ynOf 125) (ynOf 125) ∈ gw := gw_of (tb_4 _ (List.mem_of_getElem? (i := 153) rfl)) rfl
theorem wc_125 : Cond.code (ynOf 125) (bcOf 125) (mlOf 125) (rtOf 125) ∈ gw := gw_of (tb_4 _ (List.mem_of_getElem? (i := 154) rfl)) rfl
theorem wl_84 : Cond.methodLink R_law 84 (ynOf 240) ∈ gw := gw_of (tb_7 _ (List.mem_of_getElem? (i := 178) rfl)) rfl
theorem wi_240 : Cond.instanceMethod (ynOf 240) ∈ gw := gw_of (tb_7 _ (List.mem_of_getElem? (i := 179) rfl)) rfl
theorem ws_240 : Cond.selects RX12 (ynOf 240) (ynOf 240) ∈ gw := gw_of (tb_7 _ (List.mem_of_getElem? (i := 180) rfl)) rfl
theorem wc_240 : Cond.code (ynOf 240) (bcOf 240) (mlOf 240) (rtOf 240) ∈ gw := gw_of (tb_7 _ (List.mem_of_getElem? (i := 181) rfl)) rfl
theorem wl_85 : Cond.methodLink R_law 85 (ynOf 127) ∈ gw := gw_of (tb_4 _ (List.mem_of_getElem? (i := 155) rfl)) rfl
theorem wi_127 : Cond.instanceMethod (ynOf 127) ∈ gw := gw_of (tb_4 _ (List.mem_of_getElem? (i := 156) rfl)) rfl
theorem ws_127 : Cond.selects RX11 (ynOf 127) (ynOf 127) ∈ gw := gw_of (tb_4 _ (List.mem_of_getElem? (i := 157) rfl)) rfl
theorem wc_127 : Cond.code (ynOf 127) (bcOf 127) (mlOf 127) (rtOf 127) ∈ gw := gw_of (tb_4 _ (List.mem_of_getElem? (i := 158) rfl)) rfl
theorem wl_88 : Cond.methodLink R_law 88 (ynOf 175) ∈ gw := gw_of (tb_6 _ (List.mem_of_getElem? (i := 120) rfl)) rfl
theorem wi_175 : Cond.instanceMethod (ynOf 175) ∈ gw := gw_of (tb_6 _ (List.mem_of_getElem? (i := 121) rfl)) rfl
theorem ws_175 : Cond.selects RX12 (ynOf 175) (ynOf 175) ∈ gw := gw_of (tb_6 _ (List.mem_of_getElem? (i := 122) rfl)) rfl
theorem wc_175 : Cond.code (ynOf 175) (bcOf 175) (mlOf 175) (rtOf 175) ∈ gw := gw_of (tb_6 _ (List.mem_of_getElem? (i := 123) rfl)) rfl
theorem wl_89 : Cond.methodLink R_law 89 (ynOf 128) ∈ gw := gw_of (tb_4 _ (List.mem_of_getElem? (i := 163) rfl)) rfl
theorem wi_128 : Cond.instanceMethod (ynOf 128) ∈ gw := gw_of (tb_4 _ (List.mem_of_getElem? (i := 164) rfl)) rfl
theorem ws_128 : Cond.selects RX11 (ynOf 128) (ynOf 128) ∈ gw := gw_of (tb_4 _ (List.mem_of_getElem? (i := 165) rfl)) rfl
theorem wc_128 : Cond.code (ynOf 128) (bcOf 128) (mlOf 128) (rtOf 128) ∈ gw := gw_of (tb_4 _ (List.mem_of_getElem? (i := 166) rfl)) rfl
theorem wl_92 : Cond.methodLink R_law 92 (ynOf 241) ∈ gw := gw_of (tb_7 _ (List.mem_of_getElem? (i := 190) rfl)) rfl
theorem wi_241 : Cond.instanceMethod (ynOf 241) ∈ gw := gw_of (tb_7 _ (List.mem_of_getElem? (i := 191) rfl)) rfl
theorem ws_241 : Cond.selects RX12 (ynOf 241) (ynOf 241) ∈ gw := gw_of (tb_7 _ (List.mem_of_getElem? (i := 192) rfl)) rfl
theorem wc_241 : Cond.code (ynOf 241) (bcOf 241) (mlOf 241) (rtOf 241) ∈ gw := gw_of (tb_7 _ (List.mem_of_getElem? (i := 193) rfl)) rfl
theorem wl_93 : Cond.methodLink R_law 93 (ynOf 129) ∈ gw := gw_of (tb_4 _ (List.mem_of_getElem? (i := 172) rfl)) rfl
theorem wi_129 : Cond.instanceMethod (ynOf 129) ∈ gw := gw_of (tb_4 _ (List.mem_of_getElem? (i := 173) rfl)) rfl
theorem ws_129 : Cond.selects RX11 (ynOf 129) (ynOf 129) ∈ gw := gw_of (tb_4 _ (List.mem_of_getElem? (i := 174) rfl)) rfl
theorem wc_129 : Cond.code (ynOf 129) (bcOf 129) (mlOf 129) (rtOf 129) ∈ gw := gw_of (tb_4 _ (List.mem_of_getElem? (i := 175) rfl)) rfl
theorem wl_96 : Cond.methodLink R_law 96 (ynOf 242) ∈ gw := gw_of (tb_7 _ (List.mem_of_getElem? (i := 195) rfl)) rfl
theorem wi_242 : Cond.instanceMethod (ynOf 242) ∈ gw := gw_of (tb_7 _ (List.mem_of_getElem? (i := 196) rfl)) rfl
theorem ws_242 : Cond.selects RX12 (ynOf 242) (ynOf 242) ∈ gw := gw_of (tb_7 _ (List.mem_of_getElem? (i := 197) rfl)) rfl
theorem wc_242 : Cond.code (ynOf 242) (bcOf 242) (mlOf 242) (rtOf 242) ∈ gw := gw_of (tb_7 _ (List.mem_of_getElem? (i := 198) rfl)) rfl
theorem wl_97 : Cond.methodLink R_law 97 (ynOf 132) ∈ gw := gw_of (tb_4 _ (List.mem_of_getElem? (i := 180) rfl)) rfl
theorem wi_132 : Cond.instanceMethod (ynOf 132) ∈ gw := gw_of (tb_4 _ (List.mem_of_getElem? (i := 181) rfl)) rfl
theorem ws_132 : Cond.selects RX11 (ynOf 132) (ynOf 132) ∈ gw := gw_of (tb_4 _ (List.mem_of_getElem? (i := 182) rfl)) rfl
theorem wc_132 : Cond.code (ynOf 132) (bcOf 132) (mlOf 132) (rtOf 132) ∈ gw := gw_of (tb_4 _ (List.mem_of_getElem? (i := 183) rfl)) rfl
theorem wl_100 : Cond.methodLink R_law 100 (ynOf 246) ∈ gw := gw_of (tb_7 _ (List.mem_of_getElem? (i := 199) rfl)) rfl
theorem wi_246 : Cond.instanceMethod (ynOf 246) ∈ gw := gw_of (tb_7 _ (List.mem_of_getElem? (i := 200) rfl)) rfl
theorem ws_246 : Cond.selects RX12 (ynOf 246) (ynOf 246) ∈ gw := gw_of (tb_7 _ (List.mem_of_getElem? (i := 201) rfl)) rfl
theorem wc_246 : Cond.code (ynOf 246) (bcOf 246) (mlOf 246) (rtOf 246) ∈ gw := gw_of (tb_7 _ (List.mem_of_getElem? (i := 202) rfl)) rfl
theorem wl_101 : Cond.methodLink R_law 101 (ynOf 133) ∈ gw := gw_of (tb_4 _ (List.mem_of_getElem? (i := 197) rfl)) rfl
theorem wi_133 : Cond.instanceMethod (ynOf 133) ∈ gw := gw_of (tb_4 _ (List.mem_of_getElem? (i := 198) rfl)) rfl
theorem ws_133 : Cond.selects RX11 (ynOf 133) (ynOf 133) ∈ gw := gw_of (tb_4 _ (List.mem_of_getElem? (i := 199) rfl)) rfl
theorem wc_133 : Cond.code (ynOf 133) (bcOf 133) (mlOf 133) (rtOf 133) ∈ gw := gw_of (tb_4 _ (List.mem_of_getElem? (i := 200) rfl)) rfl
theorem wl_104 : Cond.methodLink R_law 104 (ynOf 247) ∈ gw := gw_of (tb_7 _ (List.mem_of_getElem? (i := 211) rfl)) rfl
theorem wi_247 : Cond.instanceMethod (ynOf 247) ∈ gw := gw_of (tb_7 _ (List.mem_of_getElem? (i := 212) rfl)) rfl
theorem ws_247 : Cond.selects RX12 (ynOf 247) (ynOf 247) ∈ gw := gw_of (tb_7 _ (List.mem_of_getElem? (i := 213) rfl)) rfl
theorem wc_247 : Cond.code (ynOf 247) (bcOf 247) (mlOf 247) (rtOf 247) ∈ gw := gw_of (tb_7 _ (List.mem_of_getElem? (i := 214) rfl)) rfl
theorem wl_105 : Cond.methodLink R_law 105 (ynOf 134) ∈ gw := gw_of (tb_4 _ (List.mem_of_getElem? (i := 205) rfl)) rfl
theorem wi_134 : Cond.instanceMethod (ynOf 134) ∈ gw := gw_of (tb_4 _ (List.mem_of_getElem? (i := 206) rfl)) rfl
theorem ws_134 : Cond.selects RX11 (ynOf 134) (ynOf 134) ∈ gw := gw_of (tb_4 _ (List.mem_of_getElem? (i := 207) rfl)) rfl
theorem wc_134 : Cond.code (ynOf 134) (bcOf 134) (mlOf 134) (rtOf 134) ∈ gw := gw_of (tb_4 _ (List.mem_of_getElem? (i := 208) rfl)) rfl
theorem wl_108 : Cond.methodLink R_law 108 (ynOf 249) ∈ gw := gw_of (tb_7 _ (List.mem_of_getElem? (i := 219) rfl)) rfl
theorem wi_249 : Cond.instanceMethod (ynOf 249) ∈ gw := gw_of (tb_7 _ (List.mem_of_getElem? (i := 220) rfl)) rfl
theorem ws_249 : Cond.selects RX12 (ynOf 249) (ynOf 249) ∈ gw := gw_of (tb_7 _ (List.mem_of_getElem? (i := 221) rfl)) rfl
theorem wc_249 : Cond.code (ynOf 249) (bcOf 249) (mlOf 249) (rtOf 249) ∈ gw := gw_of (tb_7 _ (List.mem_of_getElem? (i := 222) rfl)) rfl
theorem wl_109 : Cond.methodLink R_law 109 (ynOf 135) ∈ gw := gw_of (tb_4 _ (List.mem_of_getElem? (i := 219) rfl)) rfl
theorem wi_135 : Cond.instanceMethod (ynOf 135) ∈ gw := gw_of (tb_4 _ (List.mem_of_getElem? (i := 220) rfl)) rfl
theorem ws_135 : Cond.selects RX11 (ynOf 135) (ynOf 135) ∈ gw := gw_of (tb_4 _ (List.mem_of_getElem? (i := 221) rfl)) rfl
theorem wc_135 : Cond.code (ynOf 135) (bcOf 135) (mlOf 135) (rtOf 135) ∈ gw := gw_of (tb_4 _ (List.mem_of_getElem? (i := 222) rfl)) rfl
theorem wl_112 : Cond.methodLink R_law 112 (ynOf 252) ∈ gw := gw_of (tb_7 _ (List.mem_of_getElem? (i := 227) rfl)) rfl
theorem wi_252 : Cond.instanceMethod (ynOf 252) ∈ gw := gw_of (tb_7 _ (List.mem_of_getElem? (i := 228) rfl)) rfl
theorem ws_252 : Cond.selects RX12 (ynOf 252) (ynOf 252) ∈ gw := gw_of (tb_7 _ (List.mem_of_getElem? (i := 229) rfl)) rfl
theorem wc_252 : Cond.code (ynOf 252) (bcOf 252) (mlOf 252) (rtOf 252) ∈ gw := gw_of (tb_7 _ (List.mem_of_getElem? (i := 230) rfl)) rfl
theorem wl_113 : Cond.methodLink R_law 113 (ynOf 136) ∈ gw := gw_of (tb_4 _ (List.mem_of_getElem? (i := 231) rfl)) rfl
theorem wi_136 : Cond.instanceMethod (ynOf 136) ∈ gw := gw_of (tb_4 _ (List.mem_of_getElem? (i := 232) rfl)) rfl
theorem ws_136 : Cond.selects RX11 (ynOf 136) (ynOf 136) ∈ gw := gw_of (tb_4 _ (List.mem_of_getElem? (i := 233) rfl)) rfl
theorem wc_136 : Cond.code (ynOf 136) (bcOf 136) (mlOf 136) (rtOf 136) ∈ gw := gw_of (tb_4 _ (List.mem_of_getElem? (i := 234) rfl)) rfl
theorem wl_116 : Cond.methodLink R_law 116 (ynOf 256) ∈ gw := gw_of (tb_7 _ (List.mem_of_getElem? (i := 239) rfl)) rfl
theorem wi_256 : Cond.instanceMethod (ynOf 256) ∈ gw := gw_of (tb_8 _ (List.mem_of_getElem? (i := 0) rfl)) rfl
theorem ws_256 : Cond.selects RX12 (ynOf 256) (ynOf 256) ∈ gw := gw_of (tb_8 _ (List.mem_of_getElem? (i := 1) rfl)) rfl
theorem wc_256 : Cond.code (ynOf 256) (bcOf 256) (mlOf 256) (rtOf 256) ∈ gw := gw_of (tb_8 _ (List.mem_of_getElem? (i := 2) rfl)) rfl
theorem wl_117 : Cond.methodLink R_law 117 (ynOf 137) ∈ gw := gw_of (tb_5 _ (List.mem_of_getElem? (i := 11) rfl)) rfl
theorem wi_137 : Cond.instanceMethod (ynOf 137) ∈ gw := gw_of (tb_5 _ (List.mem_of_getElem? (i := 12) rfl)) rfl
theorem ws_137 : Cond.selects RX11 (ynOf 137) (ynOf 137) ∈ gw := gw_of (tb_5 _ (List.mem_of_getElem? (i := 13) rfl)) rfl
theorem wc_137 : Cond.code (ynOf 137) (bcOf 137) (mlOf 137) (rtOf 137) ∈ gw := gw_of (tb_5 _ (List.mem_of_getElem? (i := 14) rfl)) rfl
theorem wl_121 : Cond.methodLink R_law 121 (ynOf 260) ∈ gw := gw_of (tb_8 _ (List.mem_of_getElem? (i := 16) rfl)) rfl
theorem wi_260 : Cond.instanceMethod (ynOf 260) ∈ gw := gw_of (tb_8 _ (List.mem_of_getElem? (i := 17) rfl)) rfl
theorem ws_260 : Cond.selects RX12 (ynOf 260) (ynOf 260) ∈ gw := gw_of (tb_8 _ (List.mem_of_getElem? (i := 18) rfl)) rfl
theorem wc_260 : Cond.code (ynOf 260) (bcOf 260) (mlOf 260) (rtOf 260) ∈ gw := gw_of (tb_8 _ (List.mem_of_getElem? (i := 19) rfl)) rfl
theorem wl_122 : Cond.methodLink R_law 122 (ynOf 140) ∈ gw := gw_of (tb_5 _ (List.mem_of_getElem? (i := 28) rfl)) rfl
theorem wi_140 : Cond.instanceMethod (ynOf 140) ∈ gw := gw_of (tb_5 _ (List.mem_of_getElem? (i := 29) rfl)) rfl
theorem ws_140 : Cond.selects RX11 (ynOf 140) (ynOf 140) ∈ gw := gw_of (tb_5 _ (List.mem_of_getElem? (i := 30) rfl)) rfl
theorem wc_140 : Cond.code (ynOf 140) (bcOf 140) (mlOf 140) (rtOf 140) ∈ gw := gw_of (tb_5 _ (List.mem_of_getElem? (i := 31) rfl)) rfl
theorem wl_125 : Cond.methodLink R_law 125 (ynOf 261) ∈ gw := gw_of (tb_8 _ (List.mem_of_getElem? (i := 32) rfl)) rfl
theorem wi_261 : Cond.instanceMethod (ynOf 261) ∈ gw := gw_of (tb_8 _ (List.mem_of_getElem? (i := 33) rfl)) rfl
theorem ws_261 : Cond.selects RX12 (ynOf 261) (ynOf 261) ∈ gw := gw_of (tb_8 _ (List.mem_of_getElem? (i := 34) rfl)) rfl
theorem wc_261 : Cond.code (ynOf 261) (bcOf 261) (mlOf 261) (rtOf 261) ∈ gw := gw_of (tb_8 _ (List.mem_of_getElem? (i := 35) rfl)) rfl
theorem wl_126 : Cond.methodLink R_law 126 (ynOf 141) ∈ gw := gw_of (tb_5 _ (List.mem_of_getElem? (i := 37) rfl)) rfl
theorem wi_141 : Cond.instanceMethod (ynOf 141) ∈ gw := gw_of (tb_5 _ (List.mem_of_getElem? (i := 38) rfl)) rfl
theorem ws_141 : Cond.selects RX11 (ynOf 141) (ynOf 141) ∈ gw := gw_of (tb_5 _ (List.mem_of_getElem? (i := 39) rfl)) rfl
theorem wc_141 : Cond.code (ynOf 141) (bcOf 141) (mlOf 141) (rtOf 141) ∈ gw := gw_of (tb_5 _ (List.mem_of_getElem? (i := 40) rfl)) rfl
theorem wl_129 : Cond.methodLink R_law 129 (ynOf 262) ∈ gw := gw_of (tb_8 _ (List.mem_of_getElem? (i := 37) rfl)) rfl
theorem wi_262 : Cond.instanceMethod (ynOf 262) ∈ gw := gw_of (tb_8 _ (List.mem_of_getElem? (i := 38) rfl)) rfl
theorem ws_262 : Cond.selects RX12 (ynOf 262) (ynOf 262) ∈ gw := gw_of (tb_8 _ (List.mem_of_getElem? (i := 39) rfl)) rfl
theorem wc_262 : Cond.code (ynOf 262) (bcOf 262) (mlOf 262) (rtOf 262) ∈ gw := gw_of (tb_8 _ (List.mem_of_getElem? (i := 40) rfl)) rfl
theorem wl_130 : Cond.methodLink R_law 130 (ynOf 142) ∈ gw := gw_of (tb_5 _ (List.mem_of_getElem? (i := 45) rfl)) rfl
theorem wi_142 : Cond.instanceMethod (ynOf 142) ∈ gw := gw_of (tb_5 _ (List.mem_of_getElem? (i := 46) rfl)) rfl
theorem ws_142 : Cond.selects RX11 (ynOf 142) (ynOf 142) ∈ gw := gw_of (tb_5 _ (List.mem_of_getElem? (i := 47) rfl)) rfl
theorem wc_142 : Cond.code (ynOf 142) (bcOf 142) (mlOf 142) (rtOf 142) ∈ gw := gw_of (tb_5 _ (List.mem_of_getElem? (i := 48) rfl)) rfl
theorem wl_133 : Cond.methodLink R_law 133 (ynOf 263) ∈ gw := gw_of (tb_8 _ (List.mem_of_getElem? (i := 41) rfl)) rfl
theorem wi_263 : Cond.instanceMethod (ynOf 263) ∈ gw := gw_of (tb_8 _ (List.mem_of_getElem? (i := 42) rfl)) rfl
theorem ws_263 : Cond.selects RX12 (ynOf 263) (ynOf 263) ∈ gw := gw_of (tb_8 _ (List.mem_of_getElem? (i := 43) rfl)) rfl
theorem wc_263 : Cond.code (ynOf 263) (bcOf 263) (mlOf 263) (rtOf 263) ∈ gw := gw_of (tb_8 _ (List.mem_of_getElem? (i := 44) rfl)) rfl
theorem wl_134 : Cond.methodLink R_law 134 (ynOf 143) ∈ gw := gw_of (tb_5 _ (List.mem_of_getElem? (i := 53) rfl)) rfl
theorem wi_143 : Cond.instanceMethod (ynOf 143) ∈ gw := gw_of (tb_5 _ (List.mem_of_getElem? (i := 54) rfl)) rfl
theorem ws_143 : Cond.selects RX11 (ynOf 143) (ynOf 143) ∈ gw := gw_of (tb_5 _ (List.mem_of_getElem? (i := 55) rfl)) rfl
theorem wc_143 : Cond.code (ynOf 143) (bcOf 143) (mlOf 143) (rtOf 143) ∈ gw := gw_of (tb_5 _ (List.mem_of_getElem? (i := 56) rfl)) rfl
theorem wl_137 : Cond.methodLink R_law 137 (ynOf 265) ∈ gw := gw_of (tb_8 _ (List.mem_of_getElem? (i := 49) rfl)) rfl
theorem wi_265 : Cond.instanceMethod (ynOf 265) ∈ gw := gw_of (tb_8 _ (List.mem_of_getElem? (i := 50) rfl)) rfl
theorem ws_265 : Cond.selects RX12 (ynOf 265) (ynOf 265) ∈ gw := gw_of (tb_8 _ (List.mem_of_getElem? (i := 51) rfl)) rfl
theorem wc_265 : Cond.code (ynOf 265) (bcOf 265) (mlOf 265) (rtOf 265) ∈ gw := gw_of (tb_8 _ (List.mem_of_getElem? (i := 52) rfl)) rfl
theorem wl_138 : Cond.methodLink R_law 138 (ynOf 144) ∈ gw := gw_of (tb_5 _ (List.mem_of_getElem? (i := 57) rfl)) rfl
theorem wi_144 : Cond.instanceMethod (ynOf 144) ∈ gw := gw_of (tb_5 _ (List.mem_of_getElem? (i := 58) rfl)) rfl
theorem ws_144 : Cond.selects RX11 (ynOf 144) (ynOf 144) ∈ gw := gw_of (tb_5 _ (List.mem_of_getElem? (i := 59) rfl)) rfl
theorem wc_144 : Cond.code (ynOf 144) (bcOf 144) (mlOf 144) (rtOf 144) ∈ gw := gw_of (tb_5 _ (List.mem_of_getElem? (i := 60) rfl)) rfl
theorem wl_141 : Cond.methodLink R_law 141 (ynOf 266) ∈ gw := gw_of (tb_8 _ (List.mem_of_getElem? (i := 54) rfl)) rfl
theorem wi_266 : Cond.instanceMethod (ynOf 266) ∈ gw := gw_of (tb_8 _ (List.mem_of_getElem? (i := 55) rfl)) rfl
theorem ws_266 : Cond.selects RX12 (ynOf 266) (ynOf 266) ∈ gw := gw_of (tb_8 _ (List.mem_of_getElem? (i := 56) rfl)) rfl
theorem wc_266 : Cond.code (ynOf 266) (bcOf 266) (mlOf 266) (rtOf 266) ∈ gw := gw_of (tb_8 _ (List.mem_of_getElem? (i := 57) rfl)) rfl
theorem wl_142 : Cond.methodLink R_law 142 (ynOf 145) ∈ gw := gw_of (tb_5 _ (List.mem_of_getElem? (i := 61) rfl)) rfl
theorem wi_145 : Cond.instanceMethod (ynOf 145) ∈ gw := gw_of (tb_5 _ (List.mem_of_getElem? (i := 62) rfl)) rfl
theorem ws_145 : Cond.selects RX11 (ynOf 145) (ynOf 145) ∈ gw := gw_of (tb_5 _ (List.mem_of_getElem? (i := 63) rfl)) rfl
theorem wc_145 : Cond.code (ynOf 145) (bcOf 145) (mlOf 145) (rtOf 145) ∈ gw := gw_of (tb_5 _ (List.mem_of_getElem? (i := 64) rfl)) rfl
theorem wl_145 : Cond.methodLink R_law 145 (ynOf 269) ∈ gw := gw_of (tb_8 _ (List.mem_of_getElem? (i := 58) rfl)) rfl
theorem wi_269 : Cond.instanceMethod (ynOf 269) ∈ gw := gw_of (tb_8 _ (List.mem_of_getElem? (i := 59) rfl)) rfl
theorem ws_269 : Cond.selects RX12 (ynOf 269) (ynOf 269) ∈ gw := gw_of (tb_8 _ (List.mem_of_getElem? (i := 60) rfl)) rfl
theorem wc_269 : Cond.code (ynOf 269) (bcOf 269) (mlOf 269) (rtOf 269) ∈ gw := gw_of (tb_8 _ (List.mem_of_getElem? (i := 61) rfl)) rfl
theorem wl_146 : Cond.methodLink R_law 146 (ynOf 146) ∈ gw := gw_of (tb_5 _ (List.mem_of_getElem? (i := 82) rfl)) rfl
theorem wi_146 : Cond.instanceMethod (ynOf 146) ∈ gw := gw_of (tb_5 _ (List.mem_of_getElem? (i := 83) rfl)) rfl
theorem ws_146 : Cond.selects RX11 (ynOf 146) (ynOf 146) ∈ gw := gw_of (tb_5 _ (List.mem_of_getElem? (i := 84) rfl)) rfl
theorem wc_146 : Cond.code (ynOf 146) (bcOf 146) (mlOf 146) (rtOf 146) ∈ gw := gw_of (tb_5 _ (List.mem_of_getElem? (i := 85) rfl)) rfl
theorem wl_149 : Cond.methodLink R_law 149 (ynOf 271) ∈ gw := gw_of (tb_8 _ (List.mem_of_getElem? (i := 70) rfl)) rfl
theorem wi_271 : Cond.instanceMethod (ynOf 271) ∈ gw := gw_of (tb_8 _ (List.mem_of_getElem? (i := 71) rfl)) rfl
theorem ws_271 : Cond.selects RX12 (ynOf 271) (ynOf 271) ∈ gw := gw_of (tb_8 _ (List.mem_of_getElem? (i := 72) rfl)) rfl
theorem wc_271 : Cond.code (ynOf 271) (bcOf 271) (mlOf 271) (rtOf 271) ∈ gw := gw_of (tb_8 _ (List.mem_of_getElem? (i := 73) rfl)) rfl
theorem wl_150 : Cond.methodLink R_law 150 (ynOf 148) ∈ gw := gw_of (tb_5 _ (List.mem_of_getElem? (i := 97) rfl)) rfl
theorem wi_148 : Cond.instanceMethod (ynOf 148) ∈ gw := gw_of (tb_5 _ (List.mem_of_getElem? (i := 98) rfl)) rfl
theorem ws_148 : Cond.selects RX11 (ynOf 148) (ynOf 148) ∈ gw := gw_of (tb_5 _ (List.mem_of_getElem? (i := 99) rfl)) rfl
theorem wc_148 : Cond.code (ynOf 148) (bcOf 148) (mlOf 148) (rtOf 148) ∈ gw := gw_of (tb_5 _ (List.mem_of_getElem? (i := 100) rfl)) rfl
theorem wl_154 : Cond.methodLink R_law 154 (ynOf 272) ∈ gw := gw_of (tb_8 _ (List.mem_of_getElem? (i := 79) rfl)) rfl
theorem wi_272 : Cond.instanceMethod (ynOf 272) ∈ gw := gw_of (tb_8 _ (List.mem_of_getElem? (i := 80) rfl)) rfl
theorem ws_272 : Cond.selects RX12 (ynOf 272) (ynOf 272) ∈ gw := gw_of (tb_8 _ (List.mem_of_getElem? (i := 81) rfl)) rfl
theorem wc_272 : Cond.code (ynOf 272) (bcOf 272) (mlOf 272) (rtOf 272) ∈ gw := gw_of (tb_8 _ (List.mem_of_getElem? (i := 82) rfl)) rfl
theorem wl_155 : Cond.methodLink R_law 155 (ynOf 150) ∈ gw := gw_of (tb_5 _ (List.mem_of_getElem? (i := 108) rfl)) rfl
theorem wi_150 : Cond.instanceMethod (ynOf 150) ∈ gw := gw_of (tb_5 _ (List.mem_of_getElem? (i := 109) rfl)) rfl
theorem ws_150 : Cond.selects RX11 (ynOf 150) (ynOf 150) ∈ gw := gw_of (tb_5 _ (List.mem_of_getElem? (i := 110) rfl)) rfl
theorem wc_150 : Cond.code (ynOf 150) (bcOf 150) (mlOf 150) (rtOf 150) ∈ gw := gw_of (tb_5 _ (List.mem_of_getElem? (i := 111) rfl)) rfl
theorem wl_158 : Cond.methodLink R_law 158 (ynOf 264) ∈ gw := gw_of (tb_8 _ (List.mem_of_getElem? (i := 45) rfl)) rfl
theorem wi_264 : Cond.instanceMethod (ynOf 264) ∈ gw := gw_of (tb_8 _ (List.mem_of_getElem? (i := 46) rfl)) rfl
theorem ws_264 : Cond.selects RX12 (ynOf 264) (ynOf 264) ∈ gw := gw_of (tb_8 _ (List.mem_of_getElem? (i := 47) rfl)) rfl
theorem wc_264 : Cond.code (ynOf 264) (bcOf 264) (mlOf 264) (rtOf 264) ∈ gw := gw_of (tb_8 _ (List.mem_of_getElem? (i := 48) rfl)) rfl
theorem wl_159 : Cond.methodLink R_law 159 (ynOf 151) ∈ gw := gw_of (tb_5 _ (List.mem_of_getElem? (i := 112) rfl)) rfl
theorem wi_151 : Cond.instanceMethod (ynOf 151) ∈ gw := gw_of (tb_5 _ (List.mem_of_getElem? (i := 113) rfl)) rfl
theorem ws_151 : Cond.selects RX11 (ynOf 151) (ynOf 151) ∈ gw := gw_of (tb_5 _ (List.mem_of_getElem? (i := 114) rfl)) rfl
theorem wc_151 : Cond.code (ynOf 151) (bcOf 151) (mlOf 151) (rtOf 151) ∈ gw := gw_of (tb_5 _ (List.mem_of_getElem? (i := 115) rfl)) rfl
theorem wl_162 : Cond.methodLink R_law 162 (ynOf 282) ∈ gw := gw_of (tb_8 _ (List.mem_of_getElem? (i := 122) rfl)) rfl
theorem wi_282 : Cond.instanceMethod (ynOf 282) ∈ gw := gw_of (tb_8 _ (List.mem_of_getElem? (i := 123) rfl)) rfl
theorem ws_282 : Cond.selects RX12 (ynOf 282) (ynOf 282) ∈ gw := gw_of (tb_8 _ (List.mem_of_getElem? (i := 124) rfl)) rfl
theorem wc_282 : Cond.code (ynOf 282) (bcOf 282) (mlOf 282) (rtOf 282) ∈ gw := gw_of (tb_8 _ (List.mem_of_getElem? (i := 125) rfl)) rfl
theorem wl_163 : Cond.methodLink R_law 163 (ynOf 154) ∈ gw := gw_of (tb_5 _ (List.mem_of_getElem? (i := 125) rfl)) rfl
theorem wi_154 : Cond.instanceMethod (ynOf 154) ∈ gw := gw_of (tb_5 _ (List.mem_of_getElem? (i := 126) rfl)) rfl
theorem ws_154 : Cond.selects RX11 (ynOf 154) (ynOf 154) ∈ gw := gw_of (tb_5 _ (List.mem_of_getElem? (i := 127) rfl)) rfl
theorem wc_154 : Cond.code (ynOf 154) (bcOf 154) (mlOf 154) (rtOf 154) ∈ gw := gw_of (tb_5 _ (List.mem_of_getElem? (i := 128) rfl)) rfl
theorem wl_166 : Cond.methodLink R_law 166 (ynOf 283) ∈ gw := gw_of (tb_8 _ (List.mem_of_getElem? (i := 133) rfl)) rfl
theorem wi_283 : Cond.instanceMethod (ynOf 283) ∈ gw := gw_of (tb_8 _ (List.mem_of_getElem? (i := 134) rfl)) rfl
theorem ws_283 : Cond.selects RX12 (ynOf 283) (ynOf 283) ∈ gw := gw_of (tb_8 _ (List.mem_of_getElem? (i := 135) rfl)) rfl
theorem wc_283 : Cond.code (ynOf 283) (bcOf 283) (mlOf 283) (rtOf 283) ∈ gw := gw_of (tb_8 _ (List.mem_of_getElem? (i := 136) rfl)) rfl
theorem wl_167 : Cond.methodLink R_law 167 (ynOf 155) ∈ gw := gw_of (tb_5 _ (List.mem_of_getElem? (i := 129) rfl)) rfl
theorem wi_155 : Cond.instanceMethod (ynOf 155) ∈ gw := gw_of (tb_5 _ (List.mem_of_getElem? (i := 130) rfl)) rfl
theorem ws_155 : Cond.selects RX11 (ynOf 155) (ynOf 155) ∈ gw := gw_of (tb_5 _ (List.mem_of_getElem? (i := 131) rfl)) rfl
theorem wc_155 : Cond.code (ynOf 155) (bcOf 155) (mlOf 155) (rtOf 155) ∈ gw := gw_of (tb_5 _ (List.mem_of_getElem? (i := 132) rfl)) rfl
theorem wl_170 : Cond.methodLink R_law 170 (ynOf 176) ∈ gw := gw_of (tb_6 _ (List.mem_of_getElem? (i := 132) rfl)) rfl
theorem wi_176 : Cond.instanceMethod (ynOf 176) ∈ gw := gw_of (tb_6 _ (List.mem_of_getElem? (i := 133) rfl)) rfl
theorem ws_176 : Cond.selects RX12 (ynOf 176) (ynOf 176) ∈ gw := gw_of (tb_6 _ (List.mem_of_getElem? (i := 134) rfl)) rfl
theorem wc_176 : Cond.code (ynOf 176) (bcOf 176) (mlOf 176) (rtOf 176) ∈ gw := gw_of (tb_6 _ (List.mem_of_getElem? (i := 135) rfl)) rfl
theorem wl_171 : Cond.methodLink R_law 171 (ynOf 156) ∈ gw := gw_of (tb_5 _ (List.mem_of_getElem? (i := 147) rfl)) rfl
theorem wi_156 : Cond.instanceMethod (ynOf 156) ∈ gw := gw_of (tb_5 _ (List.mem_of_getElem? (i := 148) rfl)) rfl
theorem ws_156 : Cond.selects RX11 (ynOf 156) (ynOf 156) ∈ gw := gw_of (tb_5 _ (List.mem_of_getElem? (i := 149) rfl)) rfl
theorem wc_156 : Cond.code (ynOf 156) (bcOf 156) (mlOf 156) (rtOf 156) ∈ gw := gw_of (tb_5 _ (List.mem_of_getElem? (i := 150) rfl)) rfl
theorem wl_174 : Cond.methodLink R_law 174 (ynOf 177) ∈ gw := gw_of (tb_6 _ (List.mem_of_getElem? (i := 139) rfl)) rfl
theorem wi_177 : Cond.instanceMethod (ynOf 177) ∈ gw := gw_of (tb_6 _ (List.mem_of_getElem? (i := 140) rfl)) rfl
theorem ws_177 : Cond.selects RX12 (ynOf 177) (ynOf 177) ∈ gw := gw_of (tb_6 _ (List.mem_of_getElem? (i := 141) rfl)) rfl
theorem wc_177 : Cond.code (ynOf 177) (bcOf 177) (mlOf 177) (rtOf 177) ∈ gw := gw_of (tb_6 _ (List.mem_of_getElem? (i := 142) rfl)) rfl
theorem wl_175 : Cond.methodLink R_law 175 (ynOf 157) ∈ gw := gw_of (tb_5 _ (List.mem_of_getElem? (i := 151) rfl)) rfl
theorem wi_157 : Cond.instanceMethod (ynOf 157) ∈ gw := gw_of (tb_5 _ (List.mem_of_getElem? (i := 152) rfl)) rfl
theorem ws_157 : Cond.selects RX11 (ynOf 157) (ynOf 157) ∈ gw := gw_of (tb_5 _ (List.mem_of_getElem? (i := 153) rfl)) rfl
theorem wc_157 : Cond.code (ynOf 157) (bcOf 157) (mlOf 157) (rtOf 157) ∈ gw := gw_of (tb_5 _ (List.mem_of_getElem? (i := 154) rfl)) rfl
theorem wl_178 : Cond.methodLink R_law 178 (ynOf 284) ∈ gw := gw_of (tb_8 _ (List.mem_of_getElem? (i := 138) rfl)) rfl
theorem wi_284 : Cond.instanceMethod (ynOf 284) ∈ gw := gw_of (tb_8 _ (List.mem_of_getElem? (i := 139) rfl)) rfl
theorem ws_284 : Cond.selects RX12 (ynOf 284) (ynOf 284) ∈ gw := gw_of (tb_8 _ (List.mem_of_getElem? (i := 140) rfl)) rfl
theorem wc_284 : Cond.code (ynOf 284) (bcOf 284) (mlOf 284) (rtOf 284) ∈ gw := gw_of (tb_8 _ (List.mem_of_getElem? (i := 141) rfl)) rfl
theorem wl_179 : Cond.methodLink R_law 179 (ynOf 158) ∈ gw := gw_of (tb_5 _ (List.mem_of_getElem? (i := 155) rfl)) rfl
theorem wi_158 : Cond.instanceMethod (ynOf 158) ∈ gw := gw_of (tb_5 _ (List.mem_of_getElem? (i := 156) rfl)) rfl
theorem ws_158 : Cond.selects RX11 (ynOf 158) (ynOf 158) ∈ gw := gw_of (tb_5 _ (List.mem_of_getElem? (i := 157) rfl)) rfl
theorem wc_158 : Cond.code (ynOf 158) (bcOf 158) (mlOf 158) (rtOf 158) ∈ gw := gw_of (tb_5 _ (List.mem_of_getElem? (i := 158) rfl)) rfl
theorem wl_182 : Cond.methodLink R_law 182 (ynOf 285) ∈ gw := gw_of (tb_8 _ (List.mem_of_getElem? (i := 144) rfl)) rfl
theorem wi_285 : Cond.instanceMethod (ynOf 285) ∈ gw := gw_of (tb_8 _ (List.mem_of_getElem? (i := 145) rfl)) rfl
theorem ws_285 : Cond.selects RX12 (ynOf 285) (ynOf 285) ∈ gw := gw_of (tb_8 _ (List.mem_of_getElem? (i := 146) rfl)) rfl
theorem wc_285 : Cond.code (ynOf 285) (bcOf 285) (mlOf 285) (rtOf 285) ∈ gw := gw_of (tb_8 _ (List.mem_of_getElem? (i := 147) rfl)) rfl
theorem wn_RX11 : Cond.initialized RX11 ∈ gw := gw_of (tb_1 _ (List.mem_of_getElem? (i := 1) rfl)) rfl
theorem wk_RX11 : Cond.classLink R_law 7 RX11 ∈ gw := gw_of (tb_1 _ (List.mem_of_getElem? (i := 21) rfl)) rfl
theorem wt_RX11 : Cond.instantiable RX11 20 ∈ gw := gw_of (tb_1 _ (List.mem_of_getElem? (i := 22) rfl)) rfl
theorem wn_RX12 : Cond.initialized RX12 ∈ gw := gw_of (tb_1 _ (List.mem_of_getElem? (i := 13) rfl)) rfl
theorem wk_RX12 : Cond.classLink R_law 10 RX12 ∈ gw := gw_of (tb_5 _ (List.mem_of_getElem? (i := 159) rfl)) rfl
theorem wt_RX12 : Cond.instantiable RX12 58 ∈ gw := gw_of (tb_5 _ (List.mem_of_getElem? (i := 160) rfl)) rfl
