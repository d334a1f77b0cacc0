/-! THE LAW: its body, open in the pairs: each method of the class, and behind it the reference's, answer alike -/
theorem dL_law_0 : decode cL_law 0 = .ok (.new 7, 3) := by decide +kernel
theorem dL_law_3 : decode cL_law 3 = .ok (.dup, 1) := by decide +kernel
theorem dL_law_4 : decode cL_law 4 = .ok (.invokespecial 9, 3) := by decide +kernel
theorem dL_law_7 : decode cL_law 7 = .ok (.astore_n 1, 1) := by decide +kernel
theorem dL_law_8 : decode cL_law 8 = .ok (.new 10, 3) := by decide +kernel
theorem dL_law_11 : decode cL_law 11 = .ok (.dup, 1) := by decide +kernel
theorem dL_law_12 : decode cL_law 12 = .ok (.invokespecial 12, 3) := by decide +kernel
theorem dL_law_15 : decode cL_law 15 = .ok (.astore_n 2, 1) := by decide +kernel
theorem dL_law_16 : decode cL_law 16 = .ok (.iconst 0, 1) := by decide +kernel
theorem dL_law_17 : decode cL_law 17 = .ok (.istore_n 3, 1) := by decide +kernel
theorem dL_law_18 : decode cL_law 18 = .ok (.iload_n 3, 1) := by decide +kernel
theorem dL_law_19 : decode cL_law 19 = .ok (.aload_n 0, 1) := by decide +kernel
theorem dL_law_20 : decode cL_law 20 = .ok (.arraylength, 1) := by decide +kernel
theorem dL_law_21 : decode cL_law 21 = .ok (.bipush 7, 2) := by decide +kernel
theorem dL_law_23 : decode cL_law 23 = .ok (.isub, 1) := by decide +kernel
theorem dL_law_24 : decode cL_law 24 = .ok (.if_icmp .gt 1706, 3) := by decide +kernel
theorem dL_law_27 : decode cL_law 27 = .ok (.aload_n 0, 1) := by decide +kernel
theorem dL_law_28 : decode cL_law 28 = .ok (.iload_n 3, 1) := by decide +kernel
theorem dL_law_29 : decode cL_law 29 = .ok (.iaload, 1) := by decide +kernel
theorem dL_law_30 : decode cL_law 30 = .ok (.bipush 63, 2) := by decide +kernel
theorem dL_law_32 : decode cL_law 32 = .ok (.iand, 1) := by decide +kernel
theorem dL_law_33 : decode cL_law 33 = .ok (.tableswitch 1691 0 45 #[199, 242, 275, 318, 381, 414, 457, 470, 533, 546, 579, 642, 665, 678, 691, 704, 717, 730, 743, 766, 809, 852, 875, 908, 931, 954, 977, 1040, 1083, 1116, 1159, 1192, 1236, 1280, 1355, 1398, 1411, 1464, 1487, 1500, 1553, 1586, 1609, 1632, 1655, 1678], 199) := by decide +kernel
theorem dL_law_232 : decode cL_law 232 = .ok (.aload_n 1, 1) := by decide +kernel
theorem dL_law_233 : decode cL_law 233 = .ok (.aload_n 0, 1) := by decide +kernel
theorem dL_law_234 : decode cL_law 234 = .ok (.iload_n 3, 1) := by decide +kernel
theorem dL_law_235 : decode cL_law 235 = .ok (.iconst 1, 1) := by decide +kernel
theorem dL_law_236 : decode cL_law 236 = .ok (.iadd, 1) := by decide +kernel
theorem dL_law_237 : decode cL_law 237 = .ok (.iaload, 1) := by decide +kernel
theorem dL_law_238 : decode cL_law 238 = .ok (.aload_n 0, 1) := by decide +kernel
theorem dL_law_239 : decode cL_law 239 = .ok (.iload_n 3, 1) := by decide +kernel
theorem dL_law_240 : decode cL_law 240 = .ok (.iconst 2, 1) := by decide +kernel
theorem dL_law_241 : decode cL_law 241 = .ok (.iadd, 1) := by decide +kernel
theorem dL_law_242 : decode cL_law 242 = .ok (.iaload, 1) := by decide +kernel
theorem dL_law_243 : decode cL_law 243 = .ok (.aload_n 0, 1) := by decide +kernel
theorem dL_law_244 : decode cL_law 244 = .ok (.iload_n 3, 1) := by decide +kernel
theorem dL_law_245 : decode cL_law 245 = .ok (.iconst 3, 1) := by decide +kernel
theorem dL_law_246 : decode cL_law 246 = .ok (.iadd, 1) := by decide +kernel
theorem dL_law_247 : decode cL_law 247 = .ok (.iaload, 1) := by decide +kernel
theorem dL_law_248 : decode cL_law 248 = .ok (.invokevirtual 13, 3) := by decide +kernel
theorem dL_law_251 : decode cL_law 251 = .ok (.aload_n 2, 1) := by decide +kernel
theorem dL_law_252 : decode cL_law 252 = .ok (.aload_n 0, 1) := by decide +kernel
theorem dL_law_253 : decode cL_law 253 = .ok (.iload_n 3, 1) := by decide +kernel
theorem dL_law_254 : decode cL_law 254 = .ok (.iconst 1, 1) := by decide +kernel
theorem dL_law_255 : decode cL_law 255 = .ok (.iadd, 1) := by decide +kernel
theorem dL_law_256 : decode cL_law 256 = .ok (.iaload, 1) := by decide +kernel
theorem dL_law_257 : decode cL_law 257 = .ok (.aload_n 0, 1) := by decide +kernel
theorem dL_law_258 : decode cL_law 258 = .ok (.iload_n 3, 1) := by decide +kernel
theorem dL_law_259 : decode cL_law 259 = .ok (.iconst 2, 1) := by decide +kernel
theorem dL_law_260 : decode cL_law 260 = .ok (.iadd, 1) := by decide +kernel
theorem dL_law_261 : decode cL_law 261 = .ok (.iaload, 1) := by decide +kernel
theorem dL_law_262 : decode cL_law 262 = .ok (.aload_n 0, 1) := by decide +kernel
theorem dL_law_263 : decode cL_law 263 = .ok (.iload_n 3, 1) := by decide +kernel
theorem dL_law_264 : decode cL_law 264 = .ok (.iconst 3, 1) := by decide +kernel
theorem dL_law_265 : decode cL_law 265 = .ok (.iadd, 1) := by decide +kernel
theorem dL_law_266 : decode cL_law 266 = .ok (.iaload, 1) := by decide +kernel
theorem dL_law_267 : decode cL_law 267 = .ok (.invokevirtual 17, 3) := by decide +kernel
theorem dL_law_270 : decode cL_law 270 = .ok (.if_icmp .eq 1454, 3) := by decide +kernel
theorem dL_law_273 : decode cL_law 273 = .ok (.iconst 0, 1) := by decide +kernel
theorem dL_law_274 : decode cL_law 274 = .ok (.ireturn, 1) := by decide +kernel
theorem dL_law_275 : decode cL_law 275 = .ok (.aload_n 1, 1) := by decide +kernel
theorem dL_law_276 : decode cL_law 276 = .ok (.aload_n 0, 1) := by decide +kernel
theorem dL_law_277 : decode cL_law 277 = .ok (.iload_n 3, 1) := by decide +kernel
theorem dL_law_278 : decode cL_law 278 = .ok (.iconst 1, 1) := by decide +kernel
theorem dL_law_279 : decode cL_law 279 = .ok (.iadd, 1) := by decide +kernel
theorem dL_law_280 : decode cL_law 280 = .ok (.iaload, 1) := by decide +kernel
theorem dL_law_281 : decode cL_law 281 = .ok (.aload_n 0, 1) := by decide +kernel
theorem dL_law_282 : decode cL_law 282 = .ok (.iload_n 3, 1) := by decide +kernel
theorem dL_law_283 : decode cL_law 283 = .ok (.iconst 2, 1) := by decide +kernel
theorem dL_law_284 : decode cL_law 284 = .ok (.iadd, 1) := by decide +kernel
theorem dL_law_285 : decode cL_law 285 = .ok (.iaload, 1) := by decide +kernel
theorem dL_law_286 : decode cL_law 286 = .ok (.invokevirtual 18, 3) := by decide +kernel
theorem dL_law_289 : decode cL_law 289 = .ok (.aload_n 2, 1) := by decide +kernel
theorem dL_law_290 : decode cL_law 290 = .ok (.aload_n 0, 1) := by decide +kernel
theorem dL_law_291 : decode cL_law 291 = .ok (.iload_n 3, 1) := by decide +kernel
theorem dL_law_292 : decode cL_law 292 = .ok (.iconst 1, 1) := by decide +kernel
theorem dL_law_293 : decode cL_law 293 = .ok (.iadd, 1) := by decide +kernel
theorem dL_law_294 : decode cL_law 294 = .ok (.iaload, 1) := by decide +kernel
theorem dL_law_295 : decode cL_law 295 = .ok (.aload_n 0, 1) := by decide +kernel
theorem dL_law_296 : decode cL_law 296 = .ok (.iload_n 3, 1) := by decide +kernel
theorem dL_law_297 : decode cL_law 297 = .ok (.iconst 2, 1) := by decide +kernel
theorem dL_law_298 : decode cL_law 298 = .ok (.iadd, 1) := by decide +kernel
theorem dL_law_299 : decode cL_law 299 = .ok (.iaload, 1) := by decide +kernel
theorem dL_law_300 : decode cL_law 300 = .ok (.invokevirtual 22, 3) := by decide +kernel
theorem dL_law_303 : decode cL_law 303 = .ok (.if_icmp .eq 1421, 3) := by decide +kernel
theorem dL_law_306 : decode cL_law 306 = .ok (.iconst 0, 1) := by decide +kernel
theorem dL_law_307 : decode cL_law 307 = .ok (.ireturn, 1) := by decide +kernel
theorem dL_law_308 : decode cL_law 308 = .ok (.aload_n 1, 1) := by decide +kernel
theorem dL_law_309 : decode cL_law 309 = .ok (.aload_n 0, 1) := by decide +kernel
theorem dL_law_310 : decode cL_law 310 = .ok (.iload_n 3, 1) := by decide +kernel
theorem dL_law_311 : decode cL_law 311 = .ok (.iconst 1, 1) := by decide +kernel
theorem dL_law_312 : decode cL_law 312 = .ok (.iadd, 1) := by decide +kernel
theorem dL_law_313 : decode cL_law 313 = .ok (.iaload, 1) := by decide +kernel
theorem dL_law_314 : decode cL_law 314 = .ok (.aload_n 0, 1) := by decide +kernel
theorem dL_law_315 : decode cL_law 315 = .ok (.iload_n 3, 1) := by decide +kernel
theorem dL_law_316 : decode cL_law 316 = .ok (.iconst 2, 1) := by decide +kernel
theorem dL_law_317 : decode cL_law 317 = .ok (.iadd, 1) := by decide +kernel
theorem dL_law_318 : decode cL_law 318 = .ok (.iaload, 1) := by decide +kernel
theorem dL_law_319 : decode cL_law 319 = .ok (.aload_n 0, 1) := by decide +kernel
theorem dL_law_320 : decode cL_law 320 = .ok (.iload_n 3, 1) := by decide +kernel
theorem dL_law_321 : decode cL_law 321 = .ok (.iconst 3, 1) := by decide +kernel
theorem dL_law_322 : decode cL_law 322 = .ok (.iadd, 1) := by decide +kernel
theorem dL_law_323 : decode cL_law 323 = .ok (.iaload, 1) := by decide +kernel
theorem dL_law_324 : decode cL_law 324 = .ok (.invokevirtual 23, 3) := by decide +kernel
theorem dL_law_327 : decode cL_law 327 = .ok (.aload_n 2, 1) := by decide +kernel
theorem dL_law_328 : decode cL_law 328 = .ok (.aload_n 0, 1) := by decide +kernel
theorem dL_law_329 : decode cL_law 329 = .ok (.iload_n 3, 1) := by decide +kernel
theorem dL_law_330 : decode cL_law 330 = .ok (.iconst 1, 1) := by decide +kernel
theorem dL_law_331 : decode cL_law 331 = .ok (.iadd, 1) := by decide +kernel
theorem dL_law_332 : decode cL_law 332 = .ok (.iaload, 1) := by decide +kernel
theorem dL_law_333 : decode cL_law 333 = .ok (.aload_n 0, 1) := by decide +kernel
theorem dL_law_334 : decode cL_law 334 = .ok (.iload_n 3, 1) := by decide +kernel
theorem dL_law_335 : decode cL_law 335 = .ok (.iconst 2, 1) := by decide +kernel
theorem dL_law_336 : decode cL_law 336 = .ok (.iadd, 1) := by decide +kernel
theorem dL_law_337 : decode cL_law 337 = .ok (.iaload, 1) := by decide +kernel
theorem dL_law_338 : decode cL_law 338 = .ok (.aload_n 0, 1) := by decide +kernel
theorem dL_law_339 : decode cL_law 339 = .ok (.iload_n 3, 1) := by decide +kernel
theorem dL_law_340 : decode cL_law 340 = .ok (.iconst 3, 1) := by decide +kernel
theorem dL_law_341 : decode cL_law 341 = .ok (.iadd, 1) := by decide +kernel
theorem dL_law_342 : decode cL_law 342 = .ok (.iaload, 1) := by decide +kernel
theorem dL_law_343 : decode cL_law 343 = .ok (.invokevirtual 26, 3) := by decide +kernel
theorem dL_law_346 : decode cL_law 346 = .ok (.if_icmp .eq 1378, 3) := by decide +kernel
theorem dL_law_349 : decode cL_law 349 = .ok (.iconst 0, 1) := by decide +kernel
theorem dL_law_350 : decode cL_law 350 = .ok (.ireturn, 1) := by decide +kernel
theorem dL_law_351 : decode cL_law 351 = .ok (.aload_n 1, 1) := by decide +kernel
theorem dL_law_352 : decode cL_law 352 = .ok (.aload_n 0, 1) := by decide +kernel
theorem dL_law_353 : decode cL_law 353 = .ok (.iload_n 3, 1) := by decide +kernel
theorem dL_law_354 : decode cL_law 354 = .ok (.iconst 1, 1) := by decide +kernel
theorem dL_law_355 : decode cL_law 355 = .ok (.iadd, 1) := by decide +kernel
theorem dL_law_356 : decode cL_law 356 = .ok (.iaload, 1) := by decide +kernel
theorem dL_law_357 : decode cL_law 357 = .ok (.aload_n 0, 1) := by decide +kernel
theorem dL_law_358 : decode cL_law 358 = .ok (.iload_n 3, 1) := by decide +kernel
theorem dL_law_359 : decode cL_law 359 = .ok (.iconst 2, 1) := by decide +kernel
theorem dL_law_360 : decode cL_law 360 = .ok (.iadd, 1) := by decide +kernel
theorem dL_law_361 : decode cL_law 361 = .ok (.iaload, 1) := by decide +kernel
theorem dL_law_362 : decode cL_law 362 = .ok (.aload_n 0, 1) := by decide +kernel
theorem dL_law_363 : decode cL_law 363 = .ok (.iload_n 3, 1) := by decide +kernel
theorem dL_law_364 : decode cL_law 364 = .ok (.iconst 3, 1) := by decide +kernel
theorem dL_law_365 : decode cL_law 365 = .ok (.iadd, 1) := by decide +kernel
theorem dL_law_366 : decode cL_law 366 = .ok (.iaload, 1) := by decide +kernel
theorem dL_law_367 : decode cL_law 367 = .ok (.aload_n 0, 1) := by decide +kernel
theorem dL_law_368 : decode cL_law 368 = .ok (.iload_n 3, 1) := by decide +kernel
theorem dL_law_369 : decode cL_law 369 = .ok (.iconst 4, 1) := by decide +kernel
theorem dL_law_370 : decode cL_law 370 = .ok (.iadd, 1) := by decide +kernel
theorem dL_law_371 : decode cL_law 371 = .ok (.iaload, 1) := by decide +kernel
theorem dL_law_372 : decode cL_law 372 = .ok (.aload_n 0, 1) := by decide +kernel
theorem dL_law_373 : decode cL_law 373 = .ok (.iload_n 3, 1) := by decide +kernel
theorem dL_law_374 : decode cL_law 374 = .ok (.iconst 5, 1) := by decide +kernel
theorem dL_law_375 : decode cL_law 375 = .ok (.iadd, 1) := by decide +kernel
theorem dL_law_376 : decode cL_law 376 = .ok (.iaload, 1) := by decide +kernel
theorem dL_law_377 : decode cL_law 377 = .ok (.invokevirtual 27, 3) := by decide +kernel
theorem dL_law_380 : decode cL_law 380 = .ok (.aload_n 2, 1) := by decide +kernel
theorem dL_law_381 : decode cL_law 381 = .ok (.aload_n 0, 1) := by decide +kernel
theorem dL_law_382 : decode cL_law 382 = .ok (.iload_n 3, 1) := by decide +kernel
theorem dL_law_383 : decode cL_law 383 = .ok (.iconst 1, 1) := by decide +kernel
theorem dL_law_384 : decode cL_law 384 = .ok (.iadd, 1) := by decide +kernel
theorem dL_law_385 : decode cL_law 385 = .ok (.iaload, 1) := by decide +kernel
theorem dL_law_386 : decode cL_law 386 = .ok (.aload_n 0, 1) := by decide +kernel
theorem dL_law_387 : decode cL_law 387 = .ok (.iload_n 3, 1) := by decide +kernel
theorem dL_law_388 : decode cL_law 388 = .ok (.iconst 2, 1) := by decide +kernel
theorem dL_law_389 : decode cL_law 389 = .ok (.iadd, 1) := by decide +kernel
theorem dL_law_390 : decode cL_law 390 = .ok (.iaload, 1) := by decide +kernel
theorem dL_law_391 : decode cL_law 391 = .ok (.aload_n 0, 1) := by decide +kernel
theorem dL_law_392 : decode cL_law 392 = .ok (.iload_n 3, 1) := by decide +kernel
theorem dL_law_393 : decode cL_law 393 = .ok (.iconst 3, 1) := by decide +kernel
theorem dL_law_394 : decode cL_law 394 = .ok (.iadd, 1) := by decide +kernel
theorem dL_law_395 : decode cL_law 395 = .ok (.iaload, 1) := by decide +kernel
theorem dL_law_396 : decode cL_law 396 = .ok (.aload_n 0, 1) := by decide +kernel
theorem dL_law_397 : decode cL_law 397 = .ok (.iload_n 3, 1) := by decide +kernel
theorem dL_law_398 : decode cL_law 398 = .ok (.iconst 4, 1) := by decide +kernel
theorem dL_law_399 : decode cL_law 399 = .ok (.iadd, 1) := by decide +kernel
theorem dL_law_400 : decode cL_law 400 = .ok (.iaload, 1) := by decide +kernel
theorem dL_law_401 : decode cL_law 401 = .ok (.aload_n 0, 1) := by decide +kernel
theorem dL_law_402 : decode cL_law 402 = .ok (.iload_n 3, 1) := by decide +kernel
theorem dL_law_403 : decode cL_law 403 = .ok (.iconst 5, 1) := by decide +kernel
theorem dL_law_404 : decode cL_law 404 = .ok (.iadd, 1) := by decide +kernel
theorem dL_law_405 : decode cL_law 405 = .ok (.iaload, 1) := by decide +kernel
theorem dL_law_406 : decode cL_law 406 = .ok (.invokevirtual 31, 3) := by decide +kernel
theorem dL_law_409 : decode cL_law 409 = .ok (.if_icmp .eq 1315, 3) := by decide +kernel
theorem dL_law_412 : decode cL_law 412 = .ok (.iconst 0, 1) := by decide +kernel
theorem dL_law_413 : decode cL_law 413 = .ok (.ireturn, 1) := by decide +kernel
theorem dL_law_414 : decode cL_law 414 = .ok (.aload_n 1, 1) := by decide +kernel
theorem dL_law_415 : decode cL_law 415 = .ok (.aload_n 0, 1) := by decide +kernel
theorem dL_law_416 : decode cL_law 416 = .ok (.iload_n 3, 1) := by decide +kernel
theorem dL_law_417 : decode cL_law 417 = .ok (.iconst 1, 1) := by decide +kernel
theorem dL_law_418 : decode cL_law 418 = .ok (.iadd, 1) := by decide +kernel
theorem dL_law_419 : decode cL_law 419 = .ok (.iaload, 1) := by decide +kernel
theorem dL_law_420 : decode cL_law 420 = .ok (.aload_n 0, 1) := by decide +kernel
theorem dL_law_421 : decode cL_law 421 = .ok (.iload_n 3, 1) := by decide +kernel
theorem dL_law_422 : decode cL_law 422 = .ok (.iconst 2, 1) := by decide +kernel
theorem dL_law_423 : decode cL_law 423 = .ok (.iadd, 1) := by decide +kernel
theorem dL_law_424 : decode cL_law 424 = .ok (.iaload, 1) := by decide +kernel
theorem dL_law_425 : decode cL_law 425 = .ok (.invokevirtual 32, 3) := by decide +kernel
theorem dL_law_428 : decode cL_law 428 = .ok (.aload_n 2, 1) := by decide +kernel
theorem dL_law_429 : decode cL_law 429 = .ok (.aload_n 0, 1) := by decide +kernel
theorem dL_law_430 : decode cL_law 430 = .ok (.iload_n 3, 1) := by decide +kernel
theorem dL_law_431 : decode cL_law 431 = .ok (.iconst 1, 1) := by decide +kernel
theorem dL_law_432 : decode cL_law 432 = .ok (.iadd, 1) := by decide +kernel
theorem dL_law_433 : decode cL_law 433 = .ok (.iaload, 1) := by decide +kernel
theorem dL_law_434 : decode cL_law 434 = .ok (.aload_n 0, 1) := by decide +kernel
theorem dL_law_435 : decode cL_law 435 = .ok (.iload_n 3, 1) := by decide +kernel
theorem dL_law_436 : decode cL_law 436 = .ok (.iconst 2, 1) := by decide +kernel
theorem dL_law_437 : decode cL_law 437 = .ok (.iadd, 1) := by decide +kernel
theorem dL_law_438 : decode cL_law 438 = .ok (.iaload, 1) := by decide +kernel
theorem dL_law_439 : decode cL_law 439 = .ok (.invokevirtual 35, 3) := by decide +kernel
theorem dL_law_442 : decode cL_law 442 = .ok (.if_icmp .eq 1282, 3) := by decide +kernel
theorem dL_law_445 : decode cL_law 445 = .ok (.iconst 0, 1) := by decide +kernel
theorem dL_law_446 : decode cL_law 446 = .ok (.ireturn, 1) := by decide +kernel
theorem dL_law_447 : decode cL_law 447 = .ok (.aload_n 1, 1) := by decide +kernel
theorem dL_law_448 : decode cL_law 448 = .ok (.aload_n 0, 1) := by decide +kernel
theorem dL_law_449 : decode cL_law 449 = .ok (.iload_n 3, 1) := by decide +kernel
theorem dL_law_450 : decode cL_law 450 = .ok (.iconst 1, 1) := by decide +kernel
theorem dL_law_451 : decode cL_law 451 = .ok (.iadd, 1) := by decide +kernel
theorem dL_law_452 : decode cL_law 452 = .ok (.iaload, 1) := by decide +kernel
theorem dL_law_453 : decode cL_law 453 = .ok (.aload_n 0, 1) := by decide +kernel
theorem dL_law_454 : decode cL_law 454 = .ok (.iload_n 3, 1) := by decide +kernel
theorem dL_law_455 : decode cL_law 455 = .ok (.iconst 2, 1) := by decide +kernel
theorem dL_law_456 : decode cL_law 456 = .ok (.iadd, 1) := by decide +kernel
theorem dL_law_457 : decode cL_law 457 = .ok (.iaload, 1) := by decide +kernel
theorem dL_law_458 : decode cL_law 458 = .ok (.aload_n 0, 1) := by decide +kernel
theorem dL_law_459 : decode cL_law 459 = .ok (.iload_n 3, 1) := by decide +kernel
theorem dL_law_460 : decode cL_law 460 = .ok (.iconst 3, 1) := by decide +kernel
theorem dL_law_461 : decode cL_law 461 = .ok (.iadd, 1) := by decide +kernel
theorem dL_law_462 : decode cL_law 462 = .ok (.iaload, 1) := by decide +kernel
theorem dL_law_463 : decode cL_law 463 = .ok (.invokevirtual 36, 3) := by decide +kernel
theorem dL_law_466 : decode cL_law 466 = .ok (.aload_n 2, 1) := by decide +kernel
theorem dL_law_467 : decode cL_law 467 = .ok (.aload_n 0, 1) := by decide +kernel
theorem dL_law_468 : decode cL_law 468 = .ok (.iload_n 3, 1) := by decide +kernel
theorem dL_law_469 : decode cL_law 469 = .ok (.iconst 1, 1) := by decide +kernel
theorem dL_law_470 : decode cL_law 470 = .ok (.iadd, 1) := by decide +kernel
theorem dL_law_471 : decode cL_law 471 = .ok (.iaload, 1) := by decide +kernel
theorem dL_law_472 : decode cL_law 472 = .ok (.aload_n 0, 1) := by decide +kernel
theorem dL_law_473 : decode cL_law 473 = .ok (.iload_n 3, 1) := by decide +kernel
theorem dL_law_474 : decode cL_law 474 = .ok (.iconst 2, 1) := by decide +kernel
theorem dL_law_475 : decode cL_law 475 = .ok (.iadd, 1) := by decide +kernel
theorem dL_law_476 : decode cL_law 476 = .ok (.iaload, 1) := by decide +kernel
theorem dL_law_477 : decode cL_law 477 = .ok (.aload_n 0, 1) := by decide +kernel
theorem dL_law_478 : decode cL_law 478 = .ok (.iload_n 3, 1) := by decide +kernel
theorem dL_law_479 : decode cL_law 479 = .ok (.iconst 3, 1) := by decide +kernel
theorem dL_law_480 : decode cL_law 480 = .ok (.iadd, 1) := by decide +kernel
theorem dL_law_481 : decode cL_law 481 = .ok (.iaload, 1) := by decide +kernel
theorem dL_law_482 : decode cL_law 482 = .ok (.invokevirtual 39, 3) := by decide +kernel
theorem dL_law_485 : decode cL_law 485 = .ok (.if_icmp .eq 1239, 3) := by decide +kernel
theorem dL_law_488 : decode cL_law 488 = .ok (.iconst 0, 1) := by decide +kernel
theorem dL_law_489 : decode cL_law 489 = .ok (.ireturn, 1) := by decide +kernel
theorem dL_law_490 : decode cL_law 490 = .ok (.aload_n 1, 1) := by decide +kernel
theorem dL_law_491 : decode cL_law 491 = .ok (.invokevirtual 40, 3) := by decide +kernel
theorem dL_law_494 : decode cL_law 494 = .ok (.aload_n 2, 1) := by decide +kernel
theorem dL_law_495 : decode cL_law 495 = .ok (.invokevirtual 44, 3) := by decide +kernel
theorem dL_law_498 : decode cL_law 498 = .ok (.if_icmp .eq 1226, 3) := by decide +kernel
theorem dL_law_501 : decode cL_law 501 = .ok (.iconst 0, 1) := by decide +kernel
theorem dL_law_502 : decode cL_law 502 = .ok (.ireturn, 1) := by decide +kernel
theorem dL_law_503 : decode cL_law 503 = .ok (.aload_n 1, 1) := by decide +kernel
theorem dL_law_504 : decode cL_law 504 = .ok (.aload_n 0, 1) := by decide +kernel
theorem dL_law_505 : decode cL_law 505 = .ok (.iload_n 3, 1) := by decide +kernel
theorem dL_law_506 : decode cL_law 506 = .ok (.iconst 1, 1) := by decide +kernel
theorem dL_law_507 : decode cL_law 507 = .ok (.iadd, 1) := by decide +kernel
theorem dL_law_508 : decode cL_law 508 = .ok (.iaload, 1) := by decide +kernel
theorem dL_law_509 : decode cL_law 509 = .ok (.aload_n 0, 1) := by decide +kernel
theorem dL_law_510 : decode cL_law 510 = .ok (.iload_n 3, 1) := by decide +kernel
theorem dL_law_511 : decode cL_law 511 = .ok (.iconst 2, 1) := by decide +kernel
theorem dL_law_512 : decode cL_law 512 = .ok (.iadd, 1) := by decide +kernel
theorem dL_law_513 : decode cL_law 513 = .ok (.iaload, 1) := by decide +kernel
theorem dL_law_514 : decode cL_law 514 = .ok (.aload_n 0, 1) := by decide +kernel
theorem dL_law_515 : decode cL_law 515 = .ok (.iload_n 3, 1) := by decide +kernel
theorem dL_law_516 : decode cL_law 516 = .ok (.iconst 3, 1) := by decide +kernel
theorem dL_law_517 : decode cL_law 517 = .ok (.iadd, 1) := by decide +kernel
theorem dL_law_518 : decode cL_law 518 = .ok (.iaload, 1) := by decide +kernel
theorem dL_law_519 : decode cL_law 519 = .ok (.aload_n 0, 1) := by decide +kernel
theorem dL_law_520 : decode cL_law 520 = .ok (.iload_n 3, 1) := by decide +kernel
theorem dL_law_521 : decode cL_law 521 = .ok (.iconst 4, 1) := by decide +kernel
theorem dL_law_522 : decode cL_law 522 = .ok (.iadd, 1) := by decide +kernel
theorem dL_law_523 : decode cL_law 523 = .ok (.iaload, 1) := by decide +kernel
theorem dL_law_524 : decode cL_law 524 = .ok (.aload_n 0, 1) := by decide +kernel
theorem dL_law_525 : decode cL_law 525 = .ok (.iload_n 3, 1) := by decide +kernel
theorem dL_law_526 : decode cL_law 526 = .ok (.iconst 5, 1) := by decide +kernel
theorem dL_law_527 : decode cL_law 527 = .ok (.iadd, 1) := by decide +kernel
theorem dL_law_528 : decode cL_law 528 = .ok (.iaload, 1) := by decide +kernel
theorem dL_law_529 : decode cL_law 529 = .ok (.invokevirtual 45, 3) := by decide +kernel
theorem dL_law_532 : decode cL_law 532 = .ok (.aload_n 2, 1) := by decide +kernel
theorem dL_law_533 : decode cL_law 533 = .ok (.aload_n 0, 1) := by decide +kernel
theorem dL_law_534 : decode cL_law 534 = .ok (.iload_n 3, 1) := by decide +kernel
theorem dL_law_535 : decode cL_law 535 = .ok (.iconst 1, 1) := by decide +kernel
theorem dL_law_536 : decode cL_law 536 = .ok (.iadd, 1) := by decide +kernel
theorem dL_law_537 : decode cL_law 537 = .ok (.iaload, 1) := by decide +kernel
theorem dL_law_538 : decode cL_law 538 = .ok (.aload_n 0, 1) := by decide +kernel
theorem dL_law_539 : decode cL_law 539 = .ok (.iload_n 3, 1) := by decide +kernel
theorem dL_law_540 : decode cL_law 540 = .ok (.iconst 2, 1) := by decide +kernel
theorem dL_law_541 : decode cL_law 541 = .ok (.iadd, 1) := by decide +kernel
theorem dL_law_542 : decode cL_law 542 = .ok (.iaload, 1) := by decide +kernel
theorem dL_law_543 : decode cL_law 543 = .ok (.aload_n 0, 1) := by decide +kernel
theorem dL_law_544 : decode cL_law 544 = .ok (.iload_n 3, 1) := by decide +kernel
theorem dL_law_545 : decode cL_law 545 = .ok (.iconst 3, 1) := by decide +kernel
theorem dL_law_546 : decode cL_law 546 = .ok (.iadd, 1) := by decide +kernel
theorem dL_law_547 : decode cL_law 547 = .ok (.iaload, 1) := by decide +kernel
theorem dL_law_548 : decode cL_law 548 = .ok (.aload_n 0, 1) := by decide +kernel
theorem dL_law_549 : decode cL_law 549 = .ok (.iload_n 3, 1) := by decide +kernel
theorem dL_law_550 : decode cL_law 550 = .ok (.iconst 4, 1) := by decide +kernel
theorem dL_law_551 : decode cL_law 551 = .ok (.iadd, 1) := by decide +kernel
theorem dL_law_552 : decode cL_law 552 = .ok (.iaload, 1) := by decide +kernel
theorem dL_law_553 : decode cL_law 553 = .ok (.aload_n 0, 1) := by decide +kernel
theorem dL_law_554 : decode cL_law 554 = .ok (.iload_n 3, 1) := by decide +kernel
theorem dL_law_555 : decode cL_law 555 = .ok (.iconst 5, 1) := by decide +kernel
theorem dL_law_556 : decode cL_law 556 = .ok (.iadd, 1) := by decide +kernel
theorem dL_law_557 : decode cL_law 557 = .ok (.iaload, 1) := by decide +kernel
theorem dL_law_558 : decode cL_law 558 = .ok (.invokevirtual 48, 3) := by decide +kernel
theorem dL_law_561 : decode cL_law 561 = .ok (.if_icmp .eq 1163, 3) := by decide +kernel
theorem dL_law_564 : decode cL_law 564 = .ok (.iconst 0, 1) := by decide +kernel
theorem dL_law_565 : decode cL_law 565 = .ok (.ireturn, 1) := by decide +kernel
theorem dL_law_566 : decode cL_law 566 = .ok (.aload_n 1, 1) := by decide +kernel
theorem dL_law_567 : decode cL_law 567 = .ok (.invokevirtual 49, 3) := by decide +kernel
theorem dL_law_570 : decode cL_law 570 = .ok (.aload_n 2, 1) := by decide +kernel
theorem dL_law_571 : decode cL_law 571 = .ok (.invokevirtual 52, 3) := by decide +kernel
theorem dL_law_574 : decode cL_law 574 = .ok (.if_icmp .eq 1150, 3) := by decide +kernel
theorem dL_law_577 : decode cL_law 577 = .ok (.iconst 0, 1) := by decide +kernel
theorem dL_law_578 : decode cL_law 578 = .ok (.ireturn, 1) := by decide +kernel
theorem dL_law_579 : decode cL_law 579 = .ok (.aload_n 1, 1) := by decide +kernel
theorem dL_law_580 : decode cL_law 580 = .ok (.aload_n 0, 1) := by decide +kernel
theorem dL_law_581 : decode cL_law 581 = .ok (.iload_n 3, 1) := by decide +kernel
theorem dL_law_582 : decode cL_law 582 = .ok (.iconst 1, 1) := by decide +kernel
theorem dL_law_583 : decode cL_law 583 = .ok (.iadd, 1) := by decide +kernel
theorem dL_law_584 : decode cL_law 584 = .ok (.iaload, 1) := by decide +kernel
theorem dL_law_585 : decode cL_law 585 = .ok (.aload_n 0, 1) := by decide +kernel
theorem dL_law_586 : decode cL_law 586 = .ok (.iload_n 3, 1) := by decide +kernel
theorem dL_law_587 : decode cL_law 587 = .ok (.iconst 2, 1) := by decide +kernel
theorem dL_law_588 : decode cL_law 588 = .ok (.iadd, 1) := by decide +kernel
theorem dL_law_589 : decode cL_law 589 = .ok (.iaload, 1) := by decide +kernel
theorem dL_law_590 : decode cL_law 590 = .ok (.invokevirtual 53, 3) := by decide +kernel
theorem dL_law_593 : decode cL_law 593 = .ok (.aload_n 2, 1) := by decide +kernel
theorem dL_law_594 : decode cL_law 594 = .ok (.aload_n 0, 1) := by decide +kernel
theorem dL_law_595 : decode cL_law 595 = .ok (.iload_n 3, 1) := by decide +kernel
theorem dL_law_596 : decode cL_law 596 = .ok (.iconst 1, 1) := by decide +kernel
theorem dL_law_597 : decode cL_law 597 = .ok (.iadd, 1) := by decide +kernel
theorem dL_law_598 : decode cL_law 598 = .ok (.iaload, 1) := by decide +kernel
theorem dL_law_599 : decode cL_law 599 = .ok (.aload_n 0, 1) := by decide +kernel
theorem dL_law_600 : decode cL_law 600 = .ok (.iload_n 3, 1) := by decide +kernel
theorem dL_law_601 : decode cL_law 601 = .ok (.iconst 2, 1) := by decide +kernel
theorem dL_law_602 : decode cL_law 602 = .ok (.iadd, 1) := by decide +kernel
theorem dL_law_603 : decode cL_law 603 = .ok (.iaload, 1) := by decide +kernel
theorem dL_law_604 : decode cL_law 604 = .ok (.invokevirtual 56, 3) := by decide +kernel
theorem dL_law_607 : decode cL_law 607 = .ok (.if_icmp .eq 1117, 3) := by decide +kernel
theorem dL_law_610 : decode cL_law 610 = .ok (.iconst 0, 1) := by decide +kernel
theorem dL_law_611 : decode cL_law 611 = .ok (.ireturn, 1) := by decide +kernel
theorem dL_law_612 : decode cL_law 612 = .ok (.aload_n 1, 1) := by decide +kernel
theorem dL_law_613 : decode cL_law 613 = .ok (.aload_n 0, 1) := by decide +kernel
theorem dL_law_614 : decode cL_law 614 = .ok (.iload_n 3, 1) := by decide +kernel
theorem dL_law_615 : decode cL_law 615 = .ok (.iconst 1, 1) := by decide +kernel
theorem dL_law_616 : decode cL_law 616 = .ok (.iadd, 1) := by decide +kernel
theorem dL_law_617 : decode cL_law 617 = .ok (.iaload, 1) := by decide +kernel
theorem dL_law_618 : decode cL_law 618 = .ok (.aload_n 0, 1) := by decide +kernel
theorem dL_law_619 : decode cL_law 619 = .ok (.iload_n 3, 1) := by decide +kernel
theorem dL_law_620 : decode cL_law 620 = .ok (.iconst 2, 1) := by decide +kernel
theorem dL_law_621 : decode cL_law 621 = .ok (.iadd, 1) := by decide +kernel
theorem dL_law_622 : decode cL_law 622 = .ok (.iaload, 1) := by decide +kernel
theorem dL_law_623 : decode cL_law 623 = .ok (.aload_n 0, 1) := by decide +kernel
theorem dL_law_624 : decode cL_law 624 = .ok (.iload_n 3, 1) := by decide +kernel
theorem dL_law_625 : decode cL_law 625 = .ok (.iconst 3, 1) := by decide +kernel
theorem dL_law_626 : decode cL_law 626 = .ok (.iadd, 1) := by decide +kernel
theorem dL_law_627 : decode cL_law 627 = .ok (.iaload, 1) := by decide +kernel
theorem dL_law_628 : decode cL_law 628 = .ok (.aload_n 0, 1) := by decide +kernel
theorem dL_law_629 : decode cL_law 629 = .ok (.iload_n 3, 1) := by decide +kernel
theorem dL_law_630 : decode cL_law 630 = .ok (.iconst 4, 1) := by decide +kernel
theorem dL_law_631 : decode cL_law 631 = .ok (.iadd, 1) := by decide +kernel
theorem dL_law_632 : decode cL_law 632 = .ok (.iaload, 1) := by decide +kernel
theorem dL_law_633 : decode cL_law 633 = .ok (.aload_n 0, 1) := by decide +kernel
theorem dL_law_634 : decode cL_law 634 = .ok (.iload_n 3, 1) := by decide +kernel
theorem dL_law_635 : decode cL_law 635 = .ok (.iconst 5, 1) := by decide +kernel
theorem dL_law_636 : decode cL_law 636 = .ok (.iadd, 1) := by decide +kernel
theorem dL_law_637 : decode cL_law 637 = .ok (.iaload, 1) := by decide +kernel
theorem dL_law_638 : decode cL_law 638 = .ok (.invokevirtual 57, 3) := by decide +kernel
theorem dL_law_641 : decode cL_law 641 = .ok (.aload_n 2, 1) := by decide +kernel
theorem dL_law_642 : decode cL_law 642 = .ok (.aload_n 0, 1) := by decide +kernel
theorem dL_law_643 : decode cL_law 643 = .ok (.iload_n 3, 1) := by decide +kernel
theorem dL_law_644 : decode cL_law 644 = .ok (.iconst 1, 1) := by decide +kernel
theorem dL_law_645 : decode cL_law 645 = .ok (.iadd, 1) := by decide +kernel
theorem dL_law_646 : decode cL_law 646 = .ok (.iaload, 1) := by decide +kernel
theorem dL_law_647 : decode cL_law 647 = .ok (.aload_n 0, 1) := by decide +kernel
theorem dL_law_648 : decode cL_law 648 = .ok (.iload_n 3, 1) := by decide +kernel
theorem dL_law_649 : decode cL_law 649 = .ok (.iconst 2, 1) := by decide +kernel
theorem dL_law_650 : decode cL_law 650 = .ok (.iadd, 1) := by decide +kernel
theorem dL_law_651 : decode cL_law 651 = .ok (.iaload, 1) := by decide +kernel
theorem dL_law_652 : decode cL_law 652 = .ok (.aload_n 0, 1) := by decide +kernel
theorem dL_law_653 : decode cL_law 653 = .ok (.iload_n 3, 1) := by decide +kernel
theorem dL_law_654 : decode cL_law 654 = .ok (.iconst 3, 1) := by decide +kernel
theorem dL_law_655 : decode cL_law 655 = .ok (.iadd, 1) := by decide +kernel
theorem dL_law_656 : decode cL_law 656 = .ok (.iaload, 1) := by decide +kernel
theorem dL_law_657 : decode cL_law 657 = .ok (.aload_n 0, 1) := by decide +kernel
theorem dL_law_658 : decode cL_law 658 = .ok (.iload_n 3, 1) := by decide +kernel
theorem dL_law_659 : decode cL_law 659 = .ok (.iconst 4, 1) := by decide +kernel
theorem dL_law_660 : decode cL_law 660 = .ok (.iadd, 1) := by decide +kernel
theorem dL_law_661 : decode cL_law 661 = .ok (.iaload, 1) := by decide +kernel
theorem dL_law_662 : decode cL_law 662 = .ok (.aload_n 0, 1) := by decide +kernel
theorem dL_law_663 : decode cL_law 663 = .ok (.iload_n 3, 1) := by decide +kernel
theorem dL_law_664 : decode cL_law 664 = .ok (.iconst 5, 1) := by decide +kernel
theorem dL_law_665 : decode cL_law 665 = .ok (.iadd, 1) := by decide +kernel
theorem dL_law_666 : decode cL_law 666 = .ok (.iaload, 1) := by decide +kernel
theorem dL_law_667 : decode cL_law 667 = .ok (.invokevirtual 60, 3) := by decide +kernel
theorem dL_law_670 : decode cL_law 670 = .ok (.if_icmp .eq 1054, 3) := by decide +kernel
theorem dL_law_673 : decode cL_law 673 = .ok (.iconst 0, 1) := by decide +kernel
theorem dL_law_674 : decode cL_law 674 = .ok (.ireturn, 1) := by decide +kernel
theorem dL_law_675 : decode cL_law 675 = .ok (.aload_n 1, 1) := by decide +kernel
theorem dL_law_676 : decode cL_law 676 = .ok (.aload_n 0, 1) := by decide +kernel
theorem dL_law_677 : decode cL_law 677 = .ok (.iload_n 3, 1) := by decide +kernel
theorem dL_law_678 : decode cL_law 678 = .ok (.iconst 1, 1) := by decide +kernel
theorem dL_law_679 : decode cL_law 679 = .ok (.iadd, 1) := by decide +kernel
theorem dL_law_680 : decode cL_law 680 = .ok (.iaload, 1) := by decide +kernel
theorem dL_law_681 : decode cL_law 681 = .ok (.invokevirtual 61, 3) := by decide +kernel
theorem dL_law_684 : decode cL_law 684 = .ok (.aload_n 2, 1) := by decide +kernel
theorem dL_law_685 : decode cL_law 685 = .ok (.aload_n 0, 1) := by decide +kernel
theorem dL_law_686 : decode cL_law 686 = .ok (.iload_n 3, 1) := by decide +kernel
theorem dL_law_687 : decode cL_law 687 = .ok (.iconst 1, 1) := by decide +kernel
theorem dL_law_688 : decode cL_law 688 = .ok (.iadd, 1) := by decide +kernel
theorem dL_law_689 : decode cL_law 689 = .ok (.iaload, 1) := by decide +kernel
theorem dL_law_690 : decode cL_law 690 = .ok (.invokevirtual 65, 3) := by decide +kernel
theorem dL_law_693 : decode cL_law 693 = .ok (.if_icmp .eq 1031, 3) := by decide +kernel
theorem dL_law_696 : decode cL_law 696 = .ok (.iconst 0, 1) := by decide +kernel
theorem dL_law_697 : decode cL_law 697 = .ok (.ireturn, 1) := by decide +kernel
theorem dL_law_698 : decode cL_law 698 = .ok (.aload_n 1, 1) := by decide +kernel
theorem dL_law_699 : decode cL_law 699 = .ok (.invokevirtual 66, 3) := by decide +kernel
theorem dL_law_702 : decode cL_law 702 = .ok (.aload_n 2, 1) := by decide +kernel
theorem dL_law_703 : decode cL_law 703 = .ok (.invokevirtual 69, 3) := by decide +kernel
theorem dL_law_706 : decode cL_law 706 = .ok (.if_icmp .eq 1018, 3) := by decide +kernel
theorem dL_law_709 : decode cL_law 709 = .ok (.iconst 0, 1) := by decide +kernel
theorem dL_law_710 : decode cL_law 710 = .ok (.ireturn, 1) := by decide +kernel
theorem dL_law_711 : decode cL_law 711 = .ok (.aload_n 1, 1) := by decide +kernel
theorem dL_law_712 : decode cL_law 712 = .ok (.invokevirtual 70, 3) := by decide +kernel
theorem dL_law_715 : decode cL_law 715 = .ok (.aload_n 2, 1) := by decide +kernel
theorem dL_law_716 : decode cL_law 716 = .ok (.invokevirtual 73, 3) := by decide +kernel
theorem dL_law_719 : decode cL_law 719 = .ok (.if_icmp .eq 1005, 3) := by decide +kernel
theorem dL_law_722 : decode cL_law 722 = .ok (.iconst 0, 1) := by decide +kernel
theorem dL_law_723 : decode cL_law 723 = .ok (.ireturn, 1) := by decide +kernel
theorem dL_law_724 : decode cL_law 724 = .ok (.aload_n 1, 1) := by decide +kernel
theorem dL_law_725 : decode cL_law 725 = .ok (.invokevirtual 74, 3) := by decide +kernel
theorem dL_law_728 : decode cL_law 728 = .ok (.aload_n 2, 1) := by decide +kernel
theorem dL_law_729 : decode cL_law 729 = .ok (.invokevirtual 77, 3) := by decide +kernel
theorem dL_law_732 : decode cL_law 732 = .ok (.if_icmp .eq 992, 3) := by decide +kernel
theorem dL_law_735 : decode cL_law 735 = .ok (.iconst 0, 1) := by decide +kernel
theorem dL_law_736 : decode cL_law 736 = .ok (.ireturn, 1) := by decide +kernel
theorem dL_law_737 : decode cL_law 737 = .ok (.aload_n 1, 1) := by decide +kernel
theorem dL_law_738 : decode cL_law 738 = .ok (.invokevirtual 78, 3) := by decide +kernel
theorem dL_law_741 : decode cL_law 741 = .ok (.aload_n 2, 1) := by decide +kernel
theorem dL_law_742 : decode cL_law 742 = .ok (.invokevirtual 81, 3) := by decide +kernel
theorem dL_law_745 : decode cL_law 745 = .ok (.if_icmp .eq 979, 3) := by decide +kernel
theorem dL_law_748 : decode cL_law 748 = .ok (.iconst 0, 1) := by decide +kernel
theorem dL_law_749 : decode cL_law 749 = .ok (.ireturn, 1) := by decide +kernel
theorem dL_law_750 : decode cL_law 750 = .ok (.aload_n 1, 1) := by decide +kernel
theorem dL_law_751 : decode cL_law 751 = .ok (.invokevirtual 82, 3) := by decide +kernel
theorem dL_law_754 : decode cL_law 754 = .ok (.aload_n 2, 1) := by decide +kernel
theorem dL_law_755 : decode cL_law 755 = .ok (.invokevirtual 85, 3) := by decide +kernel
theorem dL_law_758 : decode cL_law 758 = .ok (.if_icmp .eq 966, 3) := by decide +kernel
theorem dL_law_761 : decode cL_law 761 = .ok (.iconst 0, 1) := by decide +kernel
theorem dL_law_762 : decode cL_law 762 = .ok (.ireturn, 1) := by decide +kernel
theorem dL_law_763 : decode cL_law 763 = .ok (.aload_n 1, 1) := by decide +kernel
theorem dL_law_764 : decode cL_law 764 = .ok (.invokevirtual 86, 3) := by decide +kernel
theorem dL_law_767 : decode cL_law 767 = .ok (.aload_n 2, 1) := by decide +kernel
theorem dL_law_768 : decode cL_law 768 = .ok (.invokevirtual 89, 3) := by decide +kernel
theorem dL_law_771 : decode cL_law 771 = .ok (.if_icmp .eq 953, 3) := by decide +kernel
theorem dL_law_774 : decode cL_law 774 = .ok (.iconst 0, 1) := by decide +kernel
theorem dL_law_775 : decode cL_law 775 = .ok (.ireturn, 1) := by decide +kernel
theorem dL_law_776 : decode cL_law 776 = .ok (.aload_n 1, 1) := by decide +kernel
theorem dL_law_777 : decode cL_law 777 = .ok (.aload_n 0, 1) := by decide +kernel
theorem dL_law_778 : decode cL_law 778 = .ok (.iload_n 3, 1) := by decide +kernel
theorem dL_law_779 : decode cL_law 779 = .ok (.iconst 1, 1) := by decide +kernel
theorem dL_law_780 : decode cL_law 780 = .ok (.iadd, 1) := by decide +kernel
theorem dL_law_781 : decode cL_law 781 = .ok (.iaload, 1) := by decide +kernel
theorem dL_law_782 : decode cL_law 782 = .ok (.invokevirtual 90, 3) := by decide +kernel
theorem dL_law_785 : decode cL_law 785 = .ok (.aload_n 2, 1) := by decide +kernel
theorem dL_law_786 : decode cL_law 786 = .ok (.aload_n 0, 1) := by decide +kernel
theorem dL_law_787 : decode cL_law 787 = .ok (.iload_n 3, 1) := by decide +kernel
theorem dL_law_788 : decode cL_law 788 = .ok (.iconst 1, 1) := by decide +kernel
theorem dL_law_789 : decode cL_law 789 = .ok (.iadd, 1) := by decide +kernel
theorem dL_law_790 : decode cL_law 790 = .ok (.iaload, 1) := by decide +kernel
theorem dL_law_791 : decode cL_law 791 = .ok (.invokevirtual 93, 3) := by decide +kernel
theorem dL_law_794 : decode cL_law 794 = .ok (.if_icmp .eq 930, 3) := by decide +kernel
theorem dL_law_797 : decode cL_law 797 = .ok (.iconst 0, 1) := by decide +kernel
theorem dL_law_798 : decode cL_law 798 = .ok (.ireturn, 1) := by decide +kernel
theorem dL_law_799 : decode cL_law 799 = .ok (.aload_n 1, 1) := by decide +kernel
theorem dL_law_800 : decode cL_law 800 = .ok (.aload_n 0, 1) := by decide +kernel
theorem dL_law_801 : decode cL_law 801 = .ok (.iload_n 3, 1) := by decide +kernel
theorem dL_law_802 : decode cL_law 802 = .ok (.iconst 1, 1) := by decide +kernel
theorem dL_law_803 : decode cL_law 803 = .ok (.iadd, 1) := by decide +kernel
theorem dL_law_804 : decode cL_law 804 = .ok (.iaload, 1) := by decide +kernel
theorem dL_law_805 : decode cL_law 805 = .ok (.aload_n 0, 1) := by decide +kernel
theorem dL_law_806 : decode cL_law 806 = .ok (.iload_n 3, 1) := by decide +kernel
theorem dL_law_807 : decode cL_law 807 = .ok (.iconst 2, 1) := by decide +kernel
theorem dL_law_808 : decode cL_law 808 = .ok (.iadd, 1) := by decide +kernel
theorem dL_law_809 : decode cL_law 809 = .ok (.iaload, 1) := by decide +kernel
theorem dL_law_810 : decode cL_law 810 = .ok (.aload_n 0, 1) := by decide +kernel
theorem dL_law_811 : decode cL_law 811 = .ok (.iload_n 3, 1) := by decide +kernel
theorem dL_law_812 : decode cL_law 812 = .ok (.iconst 3, 1) := by decide +kernel
theorem dL_law_813 : decode cL_law 813 = .ok (.iadd, 1) := by decide +kernel
theorem dL_law_814 : decode cL_law 814 = .ok (.iaload, 1) := by decide +kernel
theorem dL_law_815 : decode cL_law 815 = .ok (.invokevirtual 94, 3) := by decide +kernel
theorem dL_law_818 : decode cL_law 818 = .ok (.aload_n 2, 1) := by decide +kernel
theorem dL_law_819 : decode cL_law 819 = .ok (.aload_n 0, 1) := by decide +kernel
theorem dL_law_820 : decode cL_law 820 = .ok (.iload_n 3, 1) := by decide +kernel
theorem dL_law_821 : decode cL_law 821 = .ok (.iconst 1, 1) := by decide +kernel
theorem dL_law_822 : decode cL_law 822 = .ok (.iadd, 1) := by decide +kernel
theorem dL_law_823 : decode cL_law 823 = .ok (.iaload, 1) := by decide +kernel
theorem dL_law_824 : decode cL_law 824 = .ok (.aload_n 0, 1) := by decide +kernel
theorem dL_law_825 : decode cL_law 825 = .ok (.iload_n 3, 1) := by decide +kernel
theorem dL_law_826 : decode cL_law 826 = .ok (.iconst 2, 1) := by decide +kernel
theorem dL_law_827 : decode cL_law 827 = .ok (.iadd, 1) := by decide +kernel
theorem dL_law_828 : decode cL_law 828 = .ok (.iaload, 1) := by decide +kernel
theorem dL_law_829 : decode cL_law 829 = .ok (.aload_n 0, 1) := by decide +kernel
theorem dL_law_830 : decode cL_law 830 = .ok (.iload_n 3, 1) := by decide +kernel
theorem dL_law_831 : decode cL_law 831 = .ok (.iconst 3, 1) := by decide +kernel
theorem dL_law_832 : decode cL_law 832 = .ok (.iadd, 1) := by decide +kernel
theorem dL_law_833 : decode cL_law 833 = .ok (.iaload, 1) := by decide +kernel
theorem dL_law_834 : decode cL_law 834 = .ok (.invokevirtual 97, 3) := by decide +kernel
theorem dL_law_837 : decode cL_law 837 = .ok (.if_icmp .eq 887, 3) := by decide +kernel
theorem dL_law_840 : decode cL_law 840 = .ok (.iconst 0, 1) := by decide +kernel
theorem dL_law_841 : decode cL_law 841 = .ok (.ireturn, 1) := by decide +kernel
theorem dL_law_842 : decode cL_law 842 = .ok (.aload_n 1, 1) := by decide +kernel
theorem dL_law_843 : decode cL_law 843 = .ok (.aload_n 0, 1) := by decide +kernel
theorem dL_law_844 : decode cL_law 844 = .ok (.iload_n 3, 1) := by decide +kernel
theorem dL_law_845 : decode cL_law 845 = .ok (.iconst 1, 1) := by decide +kernel
theorem dL_law_846 : decode cL_law 846 = .ok (.iadd, 1) := by decide +kernel
theorem dL_law_847 : decode cL_law 847 = .ok (.iaload, 1) := by decide +kernel
theorem dL_law_848 : decode cL_law 848 = .ok (.aload_n 0, 1) := by decide +kernel
theorem dL_law_849 : decode cL_law 849 = .ok (.iload_n 3, 1) := by decide +kernel
theorem dL_law_850 : decode cL_law 850 = .ok (.iconst 2, 1) := by decide +kernel
theorem dL_law_851 : decode cL_law 851 = .ok (.iadd, 1) := by decide +kernel
theorem dL_law_852 : decode cL_law 852 = .ok (.iaload, 1) := by decide +kernel
theorem dL_law_853 : decode cL_law 853 = .ok (.aload_n 0, 1) := by decide +kernel
theorem dL_law_854 : decode cL_law 854 = .ok (.iload_n 3, 1) := by decide +kernel
theorem dL_law_855 : decode cL_law 855 = .ok (.iconst 3, 1) := by decide +kernel
theorem dL_law_856 : decode cL_law 856 = .ok (.iadd, 1) := by decide +kernel
theorem dL_law_857 : decode cL_law 857 = .ok (.iaload, 1) := by decide +kernel
theorem dL_law_858 : decode cL_law 858 = .ok (.invokevirtual 98, 3) := by decide +kernel
theorem dL_law_861 : decode cL_law 861 = .ok (.aload_n 2, 1) := by decide +kernel
theorem dL_law_862 : decode cL_law 862 = .ok (.aload_n 0, 1) := by decide +kernel
theorem dL_law_863 : decode cL_law 863 = .ok (.iload_n 3, 1) := by decide +kernel
theorem dL_law_864 : decode cL_law 864 = .ok (.iconst 1, 1) := by decide +kernel
theorem dL_law_865 : decode cL_law 865 = .ok (.iadd, 1) := by decide +kernel
theorem dL_law_866 : decode cL_law 866 = .ok (.iaload, 1) := by decide +kernel
theorem dL_law_867 : decode cL_law 867 = .ok (.aload_n 0, 1) := by decide +kernel
theorem dL_law_868 : decode cL_law 868 = .ok (.iload_n 3, 1) := by decide +kernel
theorem dL_law_869 : decode cL_law 869 = .ok (.iconst 2, 1) := by decide +kernel
theorem dL_law_870 : decode cL_law 870 = .ok (.iadd, 1) := by decide +kernel
theorem dL_law_871 : decode cL_law 871 = .ok (.iaload, 1) := by decide +kernel
theorem dL_law_872 : decode cL_law 872 = .ok (.aload_n 0, 1) := by decide +kernel
theorem dL_law_873 : decode cL_law 873 = .ok (.iload_n 3, 1) := by decide +kernel
theorem dL_law_874 : decode cL_law 874 = .ok (.iconst 3, 1) := by decide +kernel
theorem dL_law_875 : decode cL_law 875 = .ok (.iadd, 1) := by decide +kernel
theorem dL_law_876 : decode cL_law 876 = .ok (.iaload, 1) := by decide +kernel
theorem dL_law_877 : decode cL_law 877 = .ok (.invokevirtual 101, 3) := by decide +kernel
theorem dL_law_880 : decode cL_law 880 = .ok (.if_icmp .eq 844, 3) := by decide +kernel
theorem dL_law_883 : decode cL_law 883 = .ok (.iconst 0, 1) := by decide +kernel
theorem dL_law_884 : decode cL_law 884 = .ok (.ireturn, 1) := by decide +kernel
theorem dL_law_885 : decode cL_law 885 = .ok (.aload_n 1, 1) := by decide +kernel
theorem dL_law_886 : decode cL_law 886 = .ok (.aload_n 0, 1) := by decide +kernel
theorem dL_law_887 : decode cL_law 887 = .ok (.iload_n 3, 1) := by decide +kernel
theorem dL_law_888 : decode cL_law 888 = .ok (.iconst 1, 1) := by decide +kernel
theorem dL_law_889 : decode cL_law 889 = .ok (.iadd, 1) := by decide +kernel
theorem dL_law_890 : decode cL_law 890 = .ok (.iaload, 1) := by decide +kernel
theorem dL_law_891 : decode cL_law 891 = .ok (.invokevirtual 102, 3) := by decide +kernel
theorem dL_law_894 : decode cL_law 894 = .ok (.aload_n 2, 1) := by decide +kernel
theorem dL_law_895 : decode cL_law 895 = .ok (.aload_n 0, 1) := by decide +kernel
theorem dL_law_896 : decode cL_law 896 = .ok (.iload_n 3, 1) := by decide +kernel
theorem dL_law_897 : decode cL_law 897 = .ok (.iconst 1, 1) := by decide +kernel
theorem dL_law_898 : decode cL_law 898 = .ok (.iadd, 1) := by decide +kernel
theorem dL_law_899 : decode cL_law 899 = .ok (.iaload, 1) := by decide +kernel
theorem dL_law_900 : decode cL_law 900 = .ok (.invokevirtual 105, 3) := by decide +kernel
theorem dL_law_903 : decode cL_law 903 = .ok (.if_icmp .eq 821, 3) := by decide +kernel
theorem dL_law_906 : decode cL_law 906 = .ok (.iconst 0, 1) := by decide +kernel
theorem dL_law_907 : decode cL_law 907 = .ok (.ireturn, 1) := by decide +kernel
theorem dL_law_908 : decode cL_law 908 = .ok (.aload_n 1, 1) := by decide +kernel
theorem dL_law_909 : decode cL_law 909 = .ok (.aload_n 0, 1) := by decide +kernel
theorem dL_law_910 : decode cL_law 910 = .ok (.iload_n 3, 1) := by decide +kernel
theorem dL_law_911 : decode cL_law 911 = .ok (.iconst 1, 1) := by decide +kernel
theorem dL_law_912 : decode cL_law 912 = .ok (.iadd, 1) := by decide +kernel
theorem dL_law_913 : decode cL_law 913 = .ok (.iaload, 1) := by decide +kernel
theorem dL_law_914 : decode cL_law 914 = .ok (.aload_n 0, 1) := by decide +kernel
theorem dL_law_915 : decode cL_law 915 = .ok (.iload_n 3, 1) := by decide +kernel
theorem dL_law_916 : decode cL_law 916 = .ok (.iconst 2, 1) := by decide +kernel
theorem dL_law_917 : decode cL_law 917 = .ok (.iadd, 1) := by decide +kernel
theorem dL_law_918 : decode cL_law 918 = .ok (.iaload, 1) := by decide +kernel
theorem dL_law_919 : decode cL_law 919 = .ok (.invokevirtual 106, 3) := by decide +kernel
theorem dL_law_922 : decode cL_law 922 = .ok (.aload_n 2, 1) := by decide +kernel
theorem dL_law_923 : decode cL_law 923 = .ok (.aload_n 0, 1) := by decide +kernel
theorem dL_law_924 : decode cL_law 924 = .ok (.iload_n 3, 1) := by decide +kernel
theorem dL_law_925 : decode cL_law 925 = .ok (.iconst 1, 1) := by decide +kernel
theorem dL_law_926 : decode cL_law 926 = .ok (.iadd, 1) := by decide +kernel
theorem dL_law_927 : decode cL_law 927 = .ok (.iaload, 1) := by decide +kernel
theorem dL_law_928 : decode cL_law 928 = .ok (.aload_n 0, 1) := by decide +kernel
theorem dL_law_929 : decode cL_law 929 = .ok (.iload_n 3, 1) := by decide +kernel
theorem dL_law_930 : decode cL_law 930 = .ok (.iconst 2, 1) := by decide +kernel
theorem dL_law_931 : decode cL_law 931 = .ok (.iadd, 1) := by decide +kernel
theorem dL_law_932 : decode cL_law 932 = .ok (.iaload, 1) := by decide +kernel
theorem dL_law_933 : decode cL_law 933 = .ok (.invokevirtual 109, 3) := by decide +kernel
theorem dL_law_936 : decode cL_law 936 = .ok (.if_icmp .eq 788, 3) := by decide +kernel
theorem dL_law_939 : decode cL_law 939 = .ok (.iconst 0, 1) := by decide +kernel
theorem dL_law_940 : decode cL_law 940 = .ok (.ireturn, 1) := by decide +kernel
theorem dL_law_941 : decode cL_law 941 = .ok (.aload_n 1, 1) := by decide +kernel
theorem dL_law_942 : decode cL_law 942 = .ok (.aload_n 0, 1) := by decide +kernel
theorem dL_law_943 : decode cL_law 943 = .ok (.iload_n 3, 1) := by decide +kernel
theorem dL_law_944 : decode cL_law 944 = .ok (.iconst 1, 1) := by decide +kernel
theorem dL_law_945 : decode cL_law 945 = .ok (.iadd, 1) := by decide +kernel
theorem dL_law_946 : decode cL_law 946 = .ok (.iaload, 1) := by decide +kernel
theorem dL_law_947 : decode cL_law 947 = .ok (.invokevirtual 110, 3) := by decide +kernel
theorem dL_law_950 : decode cL_law 950 = .ok (.aload_n 2, 1) := by decide +kernel
theorem dL_law_951 : decode cL_law 951 = .ok (.aload_n 0, 1) := by decide +kernel
theorem dL_law_952 : decode cL_law 952 = .ok (.iload_n 3, 1) := by decide +kernel
theorem dL_law_953 : decode cL_law 953 = .ok (.iconst 1, 1) := by decide +kernel
theorem dL_law_954 : decode cL_law 954 = .ok (.iadd, 1) := by decide +kernel
theorem dL_law_955 : decode cL_law 955 = .ok (.iaload, 1) := by decide +kernel
theorem dL_law_956 : decode cL_law 956 = .ok (.invokevirtual 113, 3) := by decide +kernel
theorem dL_law_959 : decode cL_law 959 = .ok (.if_icmp .eq 765, 3) := by decide +kernel
theorem dL_law_962 : decode cL_law 962 = .ok (.iconst 0, 1) := by decide +kernel
theorem dL_law_963 : decode cL_law 963 = .ok (.ireturn, 1) := by decide +kernel
theorem dL_law_964 : decode cL_law 964 = .ok (.aload_n 1, 1) := by decide +kernel
theorem dL_law_965 : decode cL_law 965 = .ok (.aload_n 0, 1) := by decide +kernel
theorem dL_law_966 : decode cL_law 966 = .ok (.iload_n 3, 1) := by decide +kernel
theorem dL_law_967 : decode cL_law 967 = .ok (.iconst 1, 1) := by decide +kernel
theorem dL_law_968 : decode cL_law 968 = .ok (.iadd, 1) := by decide +kernel
theorem dL_law_969 : decode cL_law 969 = .ok (.iaload, 1) := by decide +kernel
theorem dL_law_970 : decode cL_law 970 = .ok (.invokevirtual 114, 3) := by decide +kernel
theorem dL_law_973 : decode cL_law 973 = .ok (.aload_n 2, 1) := by decide +kernel
theorem dL_law_974 : decode cL_law 974 = .ok (.aload_n 0, 1) := by decide +kernel
theorem dL_law_975 : decode cL_law 975 = .ok (.iload_n 3, 1) := by decide +kernel
theorem dL_law_976 : decode cL_law 976 = .ok (.iconst 1, 1) := by decide +kernel
theorem dL_law_977 : decode cL_law 977 = .ok (.iadd, 1) := by decide +kernel
theorem dL_law_978 : decode cL_law 978 = .ok (.iaload, 1) := by decide +kernel
theorem dL_law_979 : decode cL_law 979 = .ok (.invokevirtual 117, 3) := by decide +kernel
theorem dL_law_982 : decode cL_law 982 = .ok (.if_icmp .eq 742, 3) := by decide +kernel
theorem dL_law_985 : decode cL_law 985 = .ok (.iconst 0, 1) := by decide +kernel
theorem dL_law_986 : decode cL_law 986 = .ok (.ireturn, 1) := by decide +kernel
theorem dL_law_987 : decode cL_law 987 = .ok (.aload_n 1, 1) := by decide +kernel
theorem dL_law_988 : decode cL_law 988 = .ok (.aload_n 0, 1) := by decide +kernel
theorem dL_law_989 : decode cL_law 989 = .ok (.iload_n 3, 1) := by decide +kernel
theorem dL_law_990 : decode cL_law 990 = .ok (.iconst 1, 1) := by decide +kernel
theorem dL_law_991 : decode cL_law 991 = .ok (.iadd, 1) := by decide +kernel
theorem dL_law_992 : decode cL_law 992 = .ok (.iaload, 1) := by decide +kernel
theorem dL_law_993 : decode cL_law 993 = .ok (.invokevirtual 118, 3) := by decide +kernel
theorem dL_law_996 : decode cL_law 996 = .ok (.aload_n 2, 1) := by decide +kernel
theorem dL_law_997 : decode cL_law 997 = .ok (.aload_n 0, 1) := by decide +kernel
theorem dL_law_998 : decode cL_law 998 = .ok (.iload_n 3, 1) := by decide +kernel
theorem dL_law_999 : decode cL_law 999 = .ok (.iconst 1, 1) := by decide +kernel
theorem dL_law_1000 : decode cL_law 1000 = .ok (.iadd, 1) := by decide +kernel
theorem dL_law_1001 : decode cL_law 1001 = .ok (.iaload, 1) := by decide +kernel
theorem dL_law_1002 : decode cL_law 1002 = .ok (.invokevirtual 121, 3) := by decide +kernel
theorem dL_law_1005 : decode cL_law 1005 = .ok (.if_icmp .eq 719, 3) := by decide +kernel
theorem dL_law_1008 : decode cL_law 1008 = .ok (.iconst 0, 1) := by decide +kernel
theorem dL_law_1009 : decode cL_law 1009 = .ok (.ireturn, 1) := by decide +kernel
theorem dL_law_1010 : decode cL_law 1010 = .ok (.aload_n 1, 1) := by decide +kernel
theorem dL_law_1011 : decode cL_law 1011 = .ok (.aload_n 0, 1) := by decide +kernel
theorem dL_law_1012 : decode cL_law 1012 = .ok (.iload_n 3, 1) := by decide +kernel
theorem dL_law_1013 : decode cL_law 1013 = .ok (.iconst 1, 1) := by decide +kernel
theorem dL_law_1014 : decode cL_law 1014 = .ok (.iadd, 1) := by decide +kernel
theorem dL_law_1015 : decode cL_law 1015 = .ok (.iaload, 1) := by decide +kernel
theorem dL_law_1016 : decode cL_law 1016 = .ok (.aload_n 0, 1) := by decide +kernel
theorem dL_law_1017 : decode cL_law 1017 = .ok (.iload_n 3, 1) := by decide +kernel
theorem dL_law_1018 : decode cL_law 1018 = .ok (.iconst 2, 1) := by decide +kernel
theorem dL_law_1019 : decode cL_law 1019 = .ok (.iadd, 1) := by decide +kernel
theorem dL_law_1020 : decode cL_law 1020 = .ok (.iaload, 1) := by decide +kernel
theorem dL_law_1021 : decode cL_law 1021 = .ok (.aload_n 0, 1) := by decide +kernel
theorem dL_law_1022 : decode cL_law 1022 = .ok (.iload_n 3, 1) := by decide +kernel
theorem dL_law_1023 : decode cL_law 1023 = .ok (.iconst 3, 1) := by decide +kernel
theorem dL_law_1024 : decode cL_law 1024 = .ok (.iadd, 1) := by decide +kernel
theorem dL_law_1025 : decode cL_law 1025 = .ok (.iaload, 1) := by decide +kernel
theorem dL_law_1026 : decode cL_law 1026 = .ok (.aload_n 0, 1) := by decide +kernel
theorem dL_law_1027 : decode cL_law 1027 = .ok (.iload_n 3, 1) := by decide +kernel
theorem dL_law_1028 : decode cL_law 1028 = .ok (.iconst 4, 1) := by decide +kernel
theorem dL_law_1029 : decode cL_law 1029 = .ok (.iadd, 1) := by decide +kernel
theorem dL_law_1030 : decode cL_law 1030 = .ok (.iaload, 1) := by decide +kernel
theorem dL_law_1031 : decode cL_law 1031 = .ok (.aload_n 0, 1) := by decide +kernel
theorem dL_law_1032 : decode cL_law 1032 = .ok (.iload_n 3, 1) := by decide +kernel
theorem dL_law_1033 : decode cL_law 1033 = .ok (.iconst 5, 1) := by decide +kernel
theorem dL_law_1034 : decode cL_law 1034 = .ok (.iadd, 1) := by decide +kernel
theorem dL_law_1035 : decode cL_law 1035 = .ok (.iaload, 1) := by decide +kernel
theorem dL_law_1036 : decode cL_law 1036 = .ok (.invokevirtual 122, 3) := by decide +kernel
theorem dL_law_1039 : decode cL_law 1039 = .ok (.aload_n 2, 1) := by decide +kernel
theorem dL_law_1040 : decode cL_law 1040 = .ok (.aload_n 0, 1) := by decide +kernel
theorem dL_law_1041 : decode cL_law 1041 = .ok (.iload_n 3, 1) := by decide +kernel
theorem dL_law_1042 : decode cL_law 1042 = .ok (.iconst 1, 1) := by decide +kernel
theorem dL_law_1043 : decode cL_law 1043 = .ok (.iadd, 1) := by decide +kernel
theorem dL_law_1044 : decode cL_law 1044 = .ok (.iaload, 1) := by decide +kernel
theorem dL_law_1045 : decode cL_law 1045 = .ok (.aload_n 0, 1) := by decide +kernel
theorem dL_law_1046 : decode cL_law 1046 = .ok (.iload_n 3, 1) := by decide +kernel
theorem dL_law_1047 : decode cL_law 1047 = .ok (.iconst 2, 1) := by decide +kernel
theorem dL_law_1048 : decode cL_law 1048 = .ok (.iadd, 1) := by decide +kernel
theorem dL_law_1049 : decode cL_law 1049 = .ok (.iaload, 1) := by decide +kernel
theorem dL_law_1050 : decode cL_law 1050 = .ok (.aload_n 0, 1) := by decide +kernel
theorem dL_law_1051 : decode cL_law 1051 = .ok (.iload_n 3, 1) := by decide +kernel
theorem dL_law_1052 : decode cL_law 1052 = .ok (.iconst 3, 1) := by decide +kernel
theorem dL_law_1053 : decode cL_law 1053 = .ok (.iadd, 1) := by decide +kernel
theorem dL_law_1054 : decode cL_law 1054 = .ok (.iaload, 1) := by decide +kernel
theorem dL_law_1055 : decode cL_law 1055 = .ok (.aload_n 0, 1) := by decide +kernel
theorem dL_law_1056 : decode cL_law 1056 = .ok (.iload_n 3, 1) := by decide +kernel
theorem dL_law_1057 : decode cL_law 1057 = .ok (.iconst 4, 1) := by decide +kernel
theorem dL_law_1058 : decode cL_law 1058 = .ok (.iadd, 1) := by decide +kernel
theorem dL_law_1059 : decode cL_law 1059 = .ok (.iaload, 1) := by decide +kernel
theorem dL_law_1060 : decode cL_law 1060 = .ok (.aload_n 0, 1) := by decide +kernel
theorem dL_law_1061 : decode cL_law 1061 = .ok (.iload_n 3, 1) := by decide +kernel
theorem dL_law_1062 : decode cL_law 1062 = .ok (.iconst 5, 1) := by decide +kernel
theorem dL_law_1063 : decode cL_law 1063 = .ok (.iadd, 1) := by decide +kernel
theorem dL_law_1064 : decode cL_law 1064 = .ok (.iaload, 1) := by decide +kernel
theorem dL_law_1065 : decode cL_law 1065 = .ok (.invokevirtual 125, 3) := by decide +kernel
theorem dL_law_1068 : decode cL_law 1068 = .ok (.if_icmp .eq 656, 3) := by decide +kernel
theorem dL_law_1071 : decode cL_law 1071 = .ok (.iconst 0, 1) := by decide +kernel
theorem dL_law_1072 : decode cL_law 1072 = .ok (.ireturn, 1) := by decide +kernel
theorem dL_law_1073 : decode cL_law 1073 = .ok (.aload_n 1, 1) := by decide +kernel
theorem dL_law_1074 : decode cL_law 1074 = .ok (.aload_n 0, 1) := by decide +kernel
theorem dL_law_1075 : decode cL_law 1075 = .ok (.iload_n 3, 1) := by decide +kernel
theorem dL_law_1076 : decode cL_law 1076 = .ok (.iconst 1, 1) := by decide +kernel
theorem dL_law_1077 : decode cL_law 1077 = .ok (.iadd, 1) := by decide +kernel
theorem dL_law_1078 : decode cL_law 1078 = .ok (.iaload, 1) := by decide +kernel
theorem dL_law_1079 : decode cL_law 1079 = .ok (.aload_n 0, 1) := by decide +kernel
theorem dL_law_1080 : decode cL_law 1080 = .ok (.iload_n 3, 1) := by decide +kernel
theorem dL_law_1081 : decode cL_law 1081 = .ok (.iconst 2, 1) := by decide +kernel
theorem dL_law_1082 : decode cL_law 1082 = .ok (.iadd, 1) := by decide +kernel
theorem dL_law_1083 : decode cL_law 1083 = .ok (.iaload, 1) := by decide +kernel
theorem dL_law_1084 : decode cL_law 1084 = .ok (.aload_n 0, 1) := by decide +kernel
theorem dL_law_1085 : decode cL_law 1085 = .ok (.iload_n 3, 1) := by decide +kernel
theorem dL_law_1086 : decode cL_law 1086 = .ok (.iconst 3, 1) := by decide +kernel
theorem dL_law_1087 : decode cL_law 1087 = .ok (.iadd, 1) := by decide +kernel
theorem dL_law_1088 : decode cL_law 1088 = .ok (.iaload, 1) := by decide +kernel
theorem dL_law_1089 : decode cL_law 1089 = .ok (.invokevirtual 126, 3) := by decide +kernel
theorem dL_law_1092 : decode cL_law 1092 = .ok (.aload_n 2, 1) := by decide +kernel
theorem dL_law_1093 : decode cL_law 1093 = .ok (.aload_n 0, 1) := by decide +kernel
theorem dL_law_1094 : decode cL_law 1094 = .ok (.iload_n 3, 1) := by decide +kernel
theorem dL_law_1095 : decode cL_law 1095 = .ok (.iconst 1, 1) := by decide +kernel
theorem dL_law_1096 : decode cL_law 1096 = .ok (.iadd, 1) := by decide +kernel
theorem dL_law_1097 : decode cL_law 1097 = .ok (.iaload, 1) := by decide +kernel
theorem dL_law_1098 : decode cL_law 1098 = .ok (.aload_n 0, 1) := by decide +kernel
theorem dL_law_1099 : decode cL_law 1099 = .ok (.iload_n 3, 1) := by decide +kernel
theorem dL_law_1100 : decode cL_law 1100 = .ok (.iconst 2, 1) := by decide +kernel
theorem dL_law_1101 : decode cL_law 1101 = .ok (.iadd, 1) := by decide +kernel
theorem dL_law_1102 : decode cL_law 1102 = .ok (.iaload, 1) := by decide +kernel
theorem dL_law_1103 : decode cL_law 1103 = .ok (.aload_n 0, 1) := by decide +kernel
theorem dL_law_1104 : decode cL_law 1104 = .ok (.iload_n 3, 1) := by decide +kernel
theorem dL_law_1105 : decode cL_law 1105 = .ok (.iconst 3, 1) := by decide +kernel
theorem dL_law_1106 : decode cL_law 1106 = .ok (.iadd, 1) := by decide +kernel
theorem dL_law_1107 : decode cL_law 1107 = .ok (.iaload, 1) := by decide +kernel
theorem dL_law_1108 : decode cL_law 1108 = .ok (.invokevirtual 129, 3) := by decide +kernel
theorem dL_law_1111 : decode cL_law 1111 = .ok (.if_icmp .eq 613, 3) := by decide +kernel
theorem dL_law_1114 : decode cL_law 1114 = .ok (.iconst 0, 1) := by decide +kernel
theorem dL_law_1115 : decode cL_law 1115 = .ok (.ireturn, 1) := by decide +kernel
theorem dL_law_1116 : decode cL_law 1116 = .ok (.aload_n 1, 1) := by decide +kernel
theorem dL_law_1117 : decode cL_law 1117 = .ok (.aload_n 0, 1) := by decide +kernel
theorem dL_law_1118 : decode cL_law 1118 = .ok (.iload_n 3, 1) := by decide +kernel
theorem dL_law_1119 : decode cL_law 1119 = .ok (.iconst 1, 1) := by decide +kernel
theorem dL_law_1120 : decode cL_law 1120 = .ok (.iadd, 1) := by decide +kernel
theorem dL_law_1121 : decode cL_law 1121 = .ok (.iaload, 1) := by decide +kernel
theorem dL_law_1122 : decode cL_law 1122 = .ok (.aload_n 0, 1) := by decide +kernel
theorem dL_law_1123 : decode cL_law 1123 = .ok (.iload_n 3, 1) := by decide +kernel
theorem dL_law_1124 : decode cL_law 1124 = .ok (.iconst 2, 1) := by decide +kernel
theorem dL_law_1125 : decode cL_law 1125 = .ok (.iadd, 1) := by decide +kernel
theorem dL_law_1126 : decode cL_law 1126 = .ok (.iaload, 1) := by decide +kernel
theorem dL_law_1127 : decode cL_law 1127 = .ok (.invokevirtual 130, 3) := by decide +kernel
theorem dL_law_1130 : decode cL_law 1130 = .ok (.aload_n 2, 1) := by decide +kernel
theorem dL_law_1131 : decode cL_law 1131 = .ok (.aload_n 0, 1) := by decide +kernel
theorem dL_law_1132 : decode cL_law 1132 = .ok (.iload_n 3, 1) := by decide +kernel
theorem dL_law_1133 : decode cL_law 1133 = .ok (.iconst 1, 1) := by decide +kernel
theorem dL_law_1134 : decode cL_law 1134 = .ok (.iadd, 1) := by decide +kernel
theorem dL_law_1135 : decode cL_law 1135 = .ok (.iaload, 1) := by decide +kernel
theorem dL_law_1136 : decode cL_law 1136 = .ok (.aload_n 0, 1) := by decide +kernel
theorem dL_law_1137 : decode cL_law 1137 = .ok (.iload_n 3, 1) := by decide +kernel
theorem dL_law_1138 : decode cL_law 1138 = .ok (.iconst 2, 1) := by decide +kernel
theorem dL_law_1139 : decode cL_law 1139 = .ok (.iadd, 1) := by decide +kernel
theorem dL_law_1140 : decode cL_law 1140 = .ok (.iaload, 1) := by decide +kernel
theorem dL_law_1141 : decode cL_law 1141 = .ok (.invokevirtual 133, 3) := by decide +kernel
theorem dL_law_1144 : decode cL_law 1144 = .ok (.if_icmp .eq 580, 3) := by decide +kernel
theorem dL_law_1147 : decode cL_law 1147 = .ok (.iconst 0, 1) := by decide +kernel
theorem dL_law_1148 : decode cL_law 1148 = .ok (.ireturn, 1) := by decide +kernel
theorem dL_law_1149 : decode cL_law 1149 = .ok (.aload_n 1, 1) := by decide +kernel
theorem dL_law_1150 : decode cL_law 1150 = .ok (.aload_n 0, 1) := by decide +kernel
theorem dL_law_1151 : decode cL_law 1151 = .ok (.iload_n 3, 1) := by decide +kernel
theorem dL_law_1152 : decode cL_law 1152 = .ok (.iconst 1, 1) := by decide +kernel
theorem dL_law_1153 : decode cL_law 1153 = .ok (.iadd, 1) := by decide +kernel
theorem dL_law_1154 : decode cL_law 1154 = .ok (.iaload, 1) := by decide +kernel
theorem dL_law_1155 : decode cL_law 1155 = .ok (.aload_n 0, 1) := by decide +kernel
theorem dL_law_1156 : decode cL_law 1156 = .ok (.iload_n 3, 1) := by decide +kernel
theorem dL_law_1157 : decode cL_law 1157 = .ok (.iconst 2, 1) := by decide +kernel
theorem dL_law_1158 : decode cL_law 1158 = .ok (.iadd, 1) := by decide +kernel
theorem dL_law_1159 : decode cL_law 1159 = .ok (.iaload, 1) := by decide +kernel
theorem dL_law_1160 : decode cL_law 1160 = .ok (.aload_n 0, 1) := by decide +kernel
theorem dL_law_1161 : decode cL_law 1161 = .ok (.iload_n 3, 1) := by decide +kernel
theorem dL_law_1162 : decode cL_law 1162 = .ok (.iconst 3, 1) := by decide +kernel
theorem dL_law_1163 : decode cL_law 1163 = .ok (.iadd, 1) := by decide +kernel
theorem dL_law_1164 : decode cL_law 1164 = .ok (.iaload, 1) := by decide +kernel
theorem dL_law_1165 : decode cL_law 1165 = .ok (.invokevirtual 134, 3) := by decide +kernel
theorem dL_law_1168 : decode cL_law 1168 = .ok (.aload_n 2, 1) := by decide +kernel
theorem dL_law_1169 : decode cL_law 1169 = .ok (.aload_n 0, 1) := by decide +kernel
theorem dL_law_1170 : decode cL_law 1170 = .ok (.iload_n 3, 1) := by decide +kernel
theorem dL_law_1171 : decode cL_law 1171 = .ok (.iconst 1, 1) := by decide +kernel
theorem dL_law_1172 : decode cL_law 1172 = .ok (.iadd, 1) := by decide +kernel
theorem dL_law_1173 : decode cL_law 1173 = .ok (.iaload, 1) := by decide +kernel
theorem dL_law_1174 : decode cL_law 1174 = .ok (.aload_n 0, 1) := by decide +kernel
theorem dL_law_1175 : decode cL_law 1175 = .ok (.iload_n 3, 1) := by decide +kernel
theorem dL_law_1176 : decode cL_law 1176 = .ok (.iconst 2, 1) := by decide +kernel
theorem dL_law_1177 : decode cL_law 1177 = .ok (.iadd, 1) := by decide +kernel
theorem dL_law_1178 : decode cL_law 1178 = .ok (.iaload, 1) := by decide +kernel
theorem dL_law_1179 : decode cL_law 1179 = .ok (.aload_n 0, 1) := by decide +kernel
theorem dL_law_1180 : decode cL_law 1180 = .ok (.iload_n 3, 1) := by decide +kernel
theorem dL_law_1181 : decode cL_law 1181 = .ok (.iconst 3, 1) := by decide +kernel
theorem dL_law_1182 : decode cL_law 1182 = .ok (.iadd, 1) := by decide +kernel
theorem dL_law_1183 : decode cL_law 1183 = .ok (.iaload, 1) := by decide +kernel
theorem dL_law_1184 : decode cL_law 1184 = .ok (.invokevirtual 137, 3) := by decide +kernel
theorem dL_law_1187 : decode cL_law 1187 = .ok (.if_icmp .eq 537, 3) := by decide +kernel
theorem dL_law_1190 : decode cL_law 1190 = .ok (.iconst 0, 1) := by decide +kernel
theorem dL_law_1191 : decode cL_law 1191 = .ok (.ireturn, 1) := by decide +kernel
theorem dL_law_1192 : decode cL_law 1192 = .ok (.aload_n 1, 1) := by decide +kernel
theorem dL_law_1193 : decode cL_law 1193 = .ok (.aload_n 0, 1) := by decide +kernel
theorem dL_law_1194 : decode cL_law 1194 = .ok (.iload_n 3, 1) := by decide +kernel
theorem dL_law_1195 : decode cL_law 1195 = .ok (.iconst 1, 1) := by decide +kernel
theorem dL_law_1196 : decode cL_law 1196 = .ok (.iadd, 1) := by decide +kernel
theorem dL_law_1197 : decode cL_law 1197 = .ok (.iaload, 1) := by decide +kernel
theorem dL_law_1198 : decode cL_law 1198 = .ok (.aload_n 0, 1) := by decide +kernel
theorem dL_law_1199 : decode cL_law 1199 = .ok (.iload_n 3, 1) := by decide +kernel
theorem dL_law_1200 : decode cL_law 1200 = .ok (.iconst 2, 1) := by decide +kernel
theorem dL_law_1201 : decode cL_law 1201 = .ok (.iadd, 1) := by decide +kernel
theorem dL_law_1202 : decode cL_law 1202 = .ok (.iaload, 1) := by decide +kernel
theorem dL_law_1203 : decode cL_law 1203 = .ok (.invokevirtual 138, 3) := by decide +kernel
theorem dL_law_1206 : decode cL_law 1206 = .ok (.aload_n 2, 1) := by decide +kernel
theorem dL_law_1207 : decode cL_law 1207 = .ok (.aload_n 0, 1) := by decide +kernel
theorem dL_law_1208 : decode cL_law 1208 = .ok (.iload_n 3, 1) := by decide +kernel
theorem dL_law_1209 : decode cL_law 1209 = .ok (.iconst 1, 1) := by decide +kernel
theorem dL_law_1210 : decode cL_law 1210 = .ok (.iadd, 1) := by decide +kernel
theorem dL_law_1211 : decode cL_law 1211 = .ok (.iaload, 1) := by decide +kernel
theorem dL_law_1212 : decode cL_law 1212 = .ok (.aload_n 0, 1) := by decide +kernel
theorem dL_law_1213 : decode cL_law 1213 = .ok (.iload_n 3, 1) := by decide +kernel
theorem dL_law_1214 : decode cL_law 1214 = .ok (.iconst 2, 1) := by decide +kernel
theorem dL_law_1215 : decode cL_law 1215 = .ok (.iadd, 1) := by decide +kernel
theorem dL_law_1216 : decode cL_law 1216 = .ok (.iaload, 1) := by decide +kernel
theorem dL_law_1217 : decode cL_law 1217 = .ok (.invokevirtual 141, 3) := by decide +kernel
theorem dL_law_1220 : decode cL_law 1220 = .ok (.if_icmp .eq 504, 3) := by decide +kernel
theorem dL_law_1223 : decode cL_law 1223 = .ok (.iconst 0, 1) := by decide +kernel
theorem dL_law_1224 : decode cL_law 1224 = .ok (.ireturn, 1) := by decide +kernel
theorem dL_law_1225 : decode cL_law 1225 = .ok (.aload_n 1, 1) := by decide +kernel
theorem dL_law_1226 : decode cL_law 1226 = .ok (.aload_n 0, 1) := by decide +kernel
theorem dL_law_1227 : decode cL_law 1227 = .ok (.iload_n 3, 1) := by decide +kernel
theorem dL_law_1228 : decode cL_law 1228 = .ok (.iconst 1, 1) := by decide +kernel
theorem dL_law_1229 : decode cL_law 1229 = .ok (.iadd, 1) := by decide +kernel
theorem dL_law_1230 : decode cL_law 1230 = .ok (.iaload, 1) := by decide +kernel
theorem dL_law_1231 : decode cL_law 1231 = .ok (.aload_n 0, 1) := by decide +kernel
theorem dL_law_1232 : decode cL_law 1232 = .ok (.iload_n 3, 1) := by decide +kernel
theorem dL_law_1233 : decode cL_law 1233 = .ok (.iconst 2, 1) := by decide +kernel
theorem dL_law_1234 : decode cL_law 1234 = .ok (.iadd, 1) := by decide +kernel
theorem dL_law_1235 : decode cL_law 1235 = .ok (.iaload, 1) := by decide +kernel
theorem dL_law_1236 : decode cL_law 1236 = .ok (.aload_n 0, 1) := by decide +kernel
theorem dL_law_1237 : decode cL_law 1237 = .ok (.iload_n 3, 1) := by decide +kernel
theorem dL_law_1238 : decode cL_law 1238 = .ok (.iconst 3, 1) := by decide +kernel
theorem dL_law_1239 : decode cL_law 1239 = .ok (.iadd, 1) := by decide +kernel
theorem dL_law_1240 : decode cL_law 1240 = .ok (.iaload, 1) := by decide +kernel
theorem dL_law_1241 : decode cL_law 1241 = .ok (.invokevirtual 142, 3) := by decide +kernel
theorem dL_law_1244 : decode cL_law 1244 = .ok (.aload_n 2, 1) := by decide +kernel
theorem dL_law_1245 : decode cL_law 1245 = .ok (.aload_n 0, 1) := by decide +kernel
theorem dL_law_1246 : decode cL_law 1246 = .ok (.iload_n 3, 1) := by decide +kernel
theorem dL_law_1247 : decode cL_law 1247 = .ok (.iconst 1, 1) := by decide +kernel
theorem dL_law_1248 : decode cL_law 1248 = .ok (.iadd, 1) := by decide +kernel
theorem dL_law_1249 : decode cL_law 1249 = .ok (.iaload, 1) := by decide +kernel
theorem dL_law_1250 : decode cL_law 1250 = .ok (.aload_n 0, 1) := by decide +kernel
theorem dL_law_1251 : decode cL_law 1251 = .ok (.iload_n 3, 1) := by decide +kernel
theorem dL_law_1252 : decode cL_law 1252 = .ok (.iconst 2, 1) := by decide +kernel
theorem dL_law_1253 : decode cL_law 1253 = .ok (.iadd, 1) := by decide +kernel
theorem dL_law_1254 : decode cL_law 1254 = .ok (.iaload, 1) := by decide +kernel
theorem dL_law_1255 : decode cL_law 1255 = .ok (.aload_n 0, 1) := by decide +kernel
theorem dL_law_1256 : decode cL_law 1256 = .ok (.iload_n 3, 1) := by decide +kernel
theorem dL_law_1257 : decode cL_law 1257 = .ok (.iconst 3, 1) := by decide +kernel
theorem dL_law_1258 : decode cL_law 1258 = .ok (.iadd, 1) := by decide +kernel
theorem dL_law_1259 : decode cL_law 1259 = .ok (.iaload, 1) := by decide +kernel
theorem dL_law_1260 : decode cL_law 1260 = .ok (.invokevirtual 146, 3) := by decide +kernel
theorem dL_law_1263 : decode cL_law 1263 = .ok (.lcmp, 1) := by decide +kernel
theorem dL_law_1264 : decode cL_law 1264 = .ok (.ifCond .eq 460, 3) := by decide +kernel
theorem dL_law_1267 : decode cL_law 1267 = .ok (.iconst 0, 1) := by decide +kernel
theorem dL_law_1268 : decode cL_law 1268 = .ok (.ireturn, 1) := by decide +kernel
theorem dL_law_1269 : decode cL_law 1269 = .ok (.aload_n 1, 1) := by decide +kernel
theorem dL_law_1270 : decode cL_law 1270 = .ok (.aload_n 0, 1) := by decide +kernel
theorem dL_law_1271 : decode cL_law 1271 = .ok (.iload_n 3, 1) := by decide +kernel
theorem dL_law_1272 : decode cL_law 1272 = .ok (.iconst 1, 1) := by decide +kernel
theorem dL_law_1273 : decode cL_law 1273 = .ok (.iadd, 1) := by decide +kernel
theorem dL_law_1274 : decode cL_law 1274 = .ok (.iaload, 1) := by decide +kernel
theorem dL_law_1275 : decode cL_law 1275 = .ok (.aload_n 0, 1) := by decide +kernel
theorem dL_law_1276 : decode cL_law 1276 = .ok (.iload_n 3, 1) := by decide +kernel
theorem dL_law_1277 : decode cL_law 1277 = .ok (.iconst 2, 1) := by decide +kernel
theorem dL_law_1278 : decode cL_law 1278 = .ok (.iadd, 1) := by decide +kernel
theorem dL_law_1279 : decode cL_law 1279 = .ok (.iaload, 1) := by decide +kernel
theorem dL_law_1280 : decode cL_law 1280 = .ok (.aload_n 0, 1) := by decide +kernel
theorem dL_law_1281 : decode cL_law 1281 = .ok (.iload_n 3, 1) := by decide +kernel
theorem dL_law_1282 : decode cL_law 1282 = .ok (.iconst 3, 1) := by decide +kernel
theorem dL_law_1283 : decode cL_law 1283 = .ok (.iadd, 1) := by decide +kernel
theorem dL_law_1284 : decode cL_law 1284 = .ok (.iaload, 1) := by decide +kernel
theorem dL_law_1285 : decode cL_law 1285 = .ok (.invokevirtual 147, 3) := by decide +kernel
theorem dL_law_1288 : decode cL_law 1288 = .ok (.aload_n 2, 1) := by decide +kernel
theorem dL_law_1289 : decode cL_law 1289 = .ok (.aload_n 0, 1) := by decide +kernel
theorem dL_law_1290 : decode cL_law 1290 = .ok (.iload_n 3, 1) := by decide +kernel
theorem dL_law_1291 : decode cL_law 1291 = .ok (.iconst 1, 1) := by decide +kernel
theorem dL_law_1292 : decode cL_law 1292 = .ok (.iadd, 1) := by decide +kernel
theorem dL_law_1293 : decode cL_law 1293 = .ok (.iaload, 1) := by decide +kernel
theorem dL_law_1294 : decode cL_law 1294 = .ok (.aload_n 0, 1) := by decide +kernel
theorem dL_law_1295 : decode cL_law 1295 = .ok (.iload_n 3, 1) := by decide +kernel
theorem dL_law_1296 : decode cL_law 1296 = .ok (.iconst 2, 1) := by decide +kernel
theorem dL_law_1297 : decode cL_law 1297 = .ok (.iadd, 1) := by decide +kernel
theorem dL_law_1298 : decode cL_law 1298 = .ok (.iaload, 1) := by decide +kernel
theorem dL_law_1299 : decode cL_law 1299 = .ok (.aload_n 0, 1) := by decide +kernel
theorem dL_law_1300 : decode cL_law 1300 = .ok (.iload_n 3, 1) := by decide +kernel
theorem dL_law_1301 : decode cL_law 1301 = .ok (.iconst 3, 1) := by decide +kernel
theorem dL_law_1302 : decode cL_law 1302 = .ok (.iadd, 1) := by decide +kernel
theorem dL_law_1303 : decode cL_law 1303 = .ok (.iaload, 1) := by decide +kernel
theorem dL_law_1304 : decode cL_law 1304 = .ok (.invokevirtual 150, 3) := by decide +kernel
theorem dL_law_1307 : decode cL_law 1307 = .ok (.lcmp, 1) := by decide +kernel
theorem dL_law_1308 : decode cL_law 1308 = .ok (.ifCond .eq 416, 3) := by decide +kernel
theorem dL_law_1311 : decode cL_law 1311 = .ok (.iconst 0, 1) := by decide +kernel
theorem dL_law_1312 : decode cL_law 1312 = .ok (.ireturn, 1) := by decide +kernel
theorem dL_law_1313 : decode cL_law 1313 = .ok (.aload_n 1, 1) := by decide +kernel
theorem dL_law_1314 : decode cL_law 1314 = .ok (.aload_n 0, 1) := by decide +kernel
theorem dL_law_1315 : decode cL_law 1315 = .ok (.iload_n 3, 1) := by decide +kernel
theorem dL_law_1316 : decode cL_law 1316 = .ok (.iconst 1, 1) := by decide +kernel
theorem dL_law_1317 : decode cL_law 1317 = .ok (.iadd, 1) := by decide +kernel
theorem dL_law_1318 : decode cL_law 1318 = .ok (.iaload, 1) := by decide +kernel
theorem dL_law_1319 : decode cL_law 1319 = .ok (.aload_n 0, 1) := by decide +kernel
theorem dL_law_1320 : decode cL_law 1320 = .ok (.iload_n 3, 1) := by decide +kernel
theorem dL_law_1321 : decode cL_law 1321 = .ok (.iconst 2, 1) := by decide +kernel
theorem dL_law_1322 : decode cL_law 1322 = .ok (.iadd, 1) := by decide +kernel
theorem dL_law_1323 : decode cL_law 1323 = .ok (.iaload, 1) := by decide +kernel
theorem dL_law_1324 : decode cL_law 1324 = .ok (.aload_n 0, 1) := by decide +kernel
theorem dL_law_1325 : decode cL_law 1325 = .ok (.iload_n 3, 1) := by decide +kernel
theorem dL_law_1326 : decode cL_law 1326 = .ok (.iconst 3, 1) := by decide +kernel
theorem dL_law_1327 : decode cL_law 1327 = .ok (.iadd, 1) := by decide +kernel
theorem dL_law_1328 : decode cL_law 1328 = .ok (.iaload, 1) := by decide +kernel
theorem dL_law_1329 : decode cL_law 1329 = .ok (.aload_n 0, 1) := by decide +kernel
theorem dL_law_1330 : decode cL_law 1330 = .ok (.iload_n 3, 1) := by decide +kernel
theorem dL_law_1331 : decode cL_law 1331 = .ok (.iconst 4, 1) := by decide +kernel
theorem dL_law_1332 : decode cL_law 1332 = .ok (.iadd, 1) := by decide +kernel
theorem dL_law_1333 : decode cL_law 1333 = .ok (.iaload, 1) := by decide +kernel
theorem dL_law_1334 : decode cL_law 1334 = .ok (.aload_n 0, 1) := by decide +kernel
theorem dL_law_1335 : decode cL_law 1335 = .ok (.iload_n 3, 1) := by decide +kernel
theorem dL_law_1336 : decode cL_law 1336 = .ok (.iconst 5, 1) := by decide +kernel
theorem dL_law_1337 : decode cL_law 1337 = .ok (.iadd, 1) := by decide +kernel
theorem dL_law_1338 : decode cL_law 1338 = .ok (.iaload, 1) := by decide +kernel
theorem dL_law_1339 : decode cL_law 1339 = .ok (.aload_n 0, 1) := by decide +kernel
theorem dL_law_1340 : decode cL_law 1340 = .ok (.iload_n 3, 1) := by decide +kernel
theorem dL_law_1341 : decode cL_law 1341 = .ok (.bipush 6, 2) := by decide +kernel
theorem dL_law_1343 : decode cL_law 1343 = .ok (.iadd, 1) := by decide +kernel
theorem dL_law_1344 : decode cL_law 1344 = .ok (.iaload, 1) := by decide +kernel
theorem dL_law_1345 : decode cL_law 1345 = .ok (.invokevirtual 151, 3) := by decide +kernel
theorem dL_law_1348 : decode cL_law 1348 = .ok (.aload_n 2, 1) := by decide +kernel
theorem dL_law_1349 : decode cL_law 1349 = .ok (.aload_n 0, 1) := by decide +kernel
theorem dL_law_1350 : decode cL_law 1350 = .ok (.iload_n 3, 1) := by decide +kernel
theorem dL_law_1351 : decode cL_law 1351 = .ok (.iconst 1, 1) := by decide +kernel
theorem dL_law_1352 : decode cL_law 1352 = .ok (.iadd, 1) := by decide +kernel
theorem dL_law_1353 : decode cL_law 1353 = .ok (.iaload, 1) := by decide +kernel
theorem dL_law_1354 : decode cL_law 1354 = .ok (.aload_n 0, 1) := by decide +kernel
theorem dL_law_1355 : decode cL_law 1355 = .ok (.iload_n 3, 1) := by decide +kernel
theorem dL_law_1356 : decode cL_law 1356 = .ok (.iconst 2, 1) := by decide +kernel
theorem dL_law_1357 : decode cL_law 1357 = .ok (.iadd, 1) := by decide +kernel
theorem dL_law_1358 : decode cL_law 1358 = .ok (.iaload, 1) := by decide +kernel
theorem dL_law_1359 : decode cL_law 1359 = .ok (.aload_n 0, 1) := by decide +kernel
theorem dL_law_1360 : decode cL_law 1360 = .ok (.iload_n 3, 1) := by decide +kernel
theorem dL_law_1361 : decode cL_law 1361 = .ok (.iconst 3, 1) := by decide +kernel
theorem dL_law_1362 : decode cL_law 1362 = .ok (.iadd, 1) := by decide +kernel
theorem dL_law_1363 : decode cL_law 1363 = .ok (.iaload, 1) := by decide +kernel
theorem dL_law_1364 : decode cL_law 1364 = .ok (.aload_n 0, 1) := by decide +kernel
theorem dL_law_1365 : decode cL_law 1365 = .ok (.iload_n 3, 1) := by decide +kernel
theorem dL_law_1366 : decode cL_law 1366 = .ok (.iconst 4, 1) := by decide +kernel
theorem dL_law_1367 : decode cL_law 1367 = .ok (.iadd, 1) := by decide +kernel
theorem dL_law_1368 : decode cL_law 1368 = .ok (.iaload, 1) := by decide +kernel
theorem dL_law_1369 : decode cL_law 1369 = .ok (.aload_n 0, 1) := by decide +kernel
theorem dL_law_1370 : decode cL_law 1370 = .ok (.iload_n 3, 1) := by decide +kernel
theorem dL_law_1371 : decode cL_law 1371 = .ok (.iconst 5, 1) := by decide +kernel
theorem dL_law_1372 : decode cL_law 1372 = .ok (.iadd, 1) := by decide +kernel
theorem dL_law_1373 : decode cL_law 1373 = .ok (.iaload, 1) := by decide +kernel
theorem dL_law_1374 : decode cL_law 1374 = .ok (.aload_n 0, 1) := by decide +kernel
theorem dL_law_1375 : decode cL_law 1375 = .ok (.iload_n 3, 1) := by decide +kernel
theorem dL_law_1376 : decode cL_law 1376 = .ok (.bipush 6, 2) := by decide +kernel
theorem dL_law_1378 : decode cL_law 1378 = .ok (.iadd, 1) := by decide +kernel
theorem dL_law_1379 : decode cL_law 1379 = .ok (.iaload, 1) := by decide +kernel
theorem dL_law_1380 : decode cL_law 1380 = .ok (.invokevirtual 155, 3) := by decide +kernel
theorem dL_law_1383 : decode cL_law 1383 = .ok (.if_icmp .eq 341, 3) := by decide +kernel
theorem dL_law_1386 : decode cL_law 1386 = .ok (.iconst 0, 1) := by decide +kernel
theorem dL_law_1387 : decode cL_law 1387 = .ok (.ireturn, 1) := by decide +kernel
theorem dL_law_1388 : decode cL_law 1388 = .ok (.aload_n 1, 1) := by decide +kernel
theorem dL_law_1389 : decode cL_law 1389 = .ok (.aload_n 0, 1) := by decide +kernel
theorem dL_law_1390 : decode cL_law 1390 = .ok (.iload_n 3, 1) := by decide +kernel
theorem dL_law_1391 : decode cL_law 1391 = .ok (.iconst 1, 1) := by decide +kernel
theorem dL_law_1392 : decode cL_law 1392 = .ok (.iadd, 1) := by decide +kernel
theorem dL_law_1393 : decode cL_law 1393 = .ok (.iaload, 1) := by decide +kernel
theorem dL_law_1394 : decode cL_law 1394 = .ok (.aload_n 0, 1) := by decide +kernel
theorem dL_law_1395 : decode cL_law 1395 = .ok (.iload_n 3, 1) := by decide +kernel
theorem dL_law_1396 : decode cL_law 1396 = .ok (.iconst 2, 1) := by decide +kernel
theorem dL_law_1397 : decode cL_law 1397 = .ok (.iadd, 1) := by decide +kernel
theorem dL_law_1398 : decode cL_law 1398 = .ok (.iaload, 1) := by decide +kernel
theorem dL_law_1399 : decode cL_law 1399 = .ok (.aload_n 0, 1) := by decide +kernel
theorem dL_law_1400 : decode cL_law 1400 = .ok (.iload_n 3, 1) := by decide +kernel
theorem dL_law_1401 : decode cL_law 1401 = .ok (.iconst 3, 1) := by decide +kernel
theorem dL_law_1402 : decode cL_law 1402 = .ok (.iadd, 1) := by decide +kernel
theorem dL_law_1403 : decode cL_law 1403 = .ok (.iaload, 1) := by decide +kernel
theorem dL_law_1404 : decode cL_law 1404 = .ok (.invokevirtual 156, 3) := by decide +kernel
theorem dL_law_1407 : decode cL_law 1407 = .ok (.aload_n 2, 1) := by decide +kernel
theorem dL_law_1408 : decode cL_law 1408 = .ok (.aload_n 0, 1) := by decide +kernel
theorem dL_law_1409 : decode cL_law 1409 = .ok (.iload_n 3, 1) := by decide +kernel
theorem dL_law_1410 : decode cL_law 1410 = .ok (.iconst 1, 1) := by decide +kernel
theorem dL_law_1411 : decode cL_law 1411 = .ok (.iadd, 1) := by decide +kernel
theorem dL_law_1412 : decode cL_law 1412 = .ok (.iaload, 1) := by decide +kernel
theorem dL_law_1413 : decode cL_law 1413 = .ok (.aload_n 0, 1) := by decide +kernel
theorem dL_law_1414 : decode cL_law 1414 = .ok (.iload_n 3, 1) := by decide +kernel
theorem dL_law_1415 : decode cL_law 1415 = .ok (.iconst 2, 1) := by decide +kernel
theorem dL_law_1416 : decode cL_law 1416 = .ok (.iadd, 1) := by decide +kernel
theorem dL_law_1417 : decode cL_law 1417 = .ok (.iaload, 1) := by decide +kernel
theorem dL_law_1418 : decode cL_law 1418 = .ok (.aload_n 0, 1) := by decide +kernel
theorem dL_law_1419 : decode cL_law 1419 = .ok (.iload_n 3, 1) := by decide +kernel
theorem dL_law_1420 : decode cL_law 1420 = .ok (.iconst 3, 1) := by decide +kernel
theorem dL_law_1421 : decode cL_law 1421 = .ok (.iadd, 1) := by decide +kernel
theorem dL_law_1422 : decode cL_law 1422 = .ok (.iaload, 1) := by decide +kernel
theorem dL_law_1423 : decode cL_law 1423 = .ok (.invokevirtual 159, 3) := by decide +kernel
theorem dL_law_1426 : decode cL_law 1426 = .ok (.if_icmp .eq 298, 3) := by decide +kernel
theorem dL_law_1429 : decode cL_law 1429 = .ok (.iconst 0, 1) := by decide +kernel
theorem dL_law_1430 : decode cL_law 1430 = .ok (.ireturn, 1) := by decide +kernel
theorem dL_law_1431 : decode cL_law 1431 = .ok (.aload_n 1, 1) := by decide +kernel
theorem dL_law_1432 : decode cL_law 1432 = .ok (.invokevirtual 160, 3) := by decide +kernel
theorem dL_law_1435 : decode cL_law 1435 = .ok (.aload_n 2, 1) := by decide +kernel
theorem dL_law_1436 : decode cL_law 1436 = .ok (.invokevirtual 163, 3) := by decide +kernel
theorem dL_law_1439 : decode cL_law 1439 = .ok (.if_icmp .eq 285, 3) := by decide +kernel
theorem dL_law_1442 : decode cL_law 1442 = .ok (.iconst 0, 1) := by decide +kernel
theorem dL_law_1443 : decode cL_law 1443 = .ok (.ireturn, 1) := by decide +kernel
theorem dL_law_1444 : decode cL_law 1444 = .ok (.aload_n 1, 1) := by decide +kernel
theorem dL_law_1445 : decode cL_law 1445 = .ok (.aload_n 0, 1) := by decide +kernel
theorem dL_law_1446 : decode cL_law 1446 = .ok (.iload_n 3, 1) := by decide +kernel
theorem dL_law_1447 : decode cL_law 1447 = .ok (.iconst 1, 1) := by decide +kernel
theorem dL_law_1448 : decode cL_law 1448 = .ok (.iadd, 1) := by decide +kernel
theorem dL_law_1449 : decode cL_law 1449 = .ok (.iaload, 1) := by decide +kernel
theorem dL_law_1450 : decode cL_law 1450 = .ok (.aload_n 0, 1) := by decide +kernel
theorem dL_law_1451 : decode cL_law 1451 = .ok (.iload_n 3, 1) := by decide +kernel
theorem dL_law_1452 : decode cL_law 1452 = .ok (.iconst 2, 1) := by decide +kernel
theorem dL_law_1453 : decode cL_law 1453 = .ok (.iadd, 1) := by decide +kernel
theorem dL_law_1454 : decode cL_law 1454 = .ok (.iaload, 1) := by decide +kernel
theorem dL_law_1455 : decode cL_law 1455 = .ok (.aload_n 0, 1) := by decide +kernel
theorem dL_law_1456 : decode cL_law 1456 = .ok (.iload_n 3, 1) := by decide +kernel
theorem dL_law_1457 : decode cL_law 1457 = .ok (.iconst 3, 1) := by decide +kernel
theorem dL_law_1458 : decode cL_law 1458 = .ok (.iadd, 1) := by decide +kernel
theorem dL_law_1459 : decode cL_law 1459 = .ok (.iaload, 1) := by decide +kernel
theorem dL_law_1460 : decode cL_law 1460 = .ok (.aload_n 0, 1) := by decide +kernel
theorem dL_law_1461 : decode cL_law 1461 = .ok (.iload_n 3, 1) := by decide +kernel
theorem dL_law_1462 : decode cL_law 1462 = .ok (.iconst 4, 1) := by decide +kernel
theorem dL_law_1463 : decode cL_law 1463 = .ok (.iadd, 1) := by decide +kernel
theorem dL_law_1464 : decode cL_law 1464 = .ok (.iaload, 1) := by decide +kernel
theorem dL_law_1465 : decode cL_law 1465 = .ok (.invokevirtual 164, 3) := by decide +kernel
theorem dL_law_1468 : decode cL_law 1468 = .ok (.aload_n 2, 1) := by decide +kernel
theorem dL_law_1469 : decode cL_law 1469 = .ok (.aload_n 0, 1) := by decide +kernel
theorem dL_law_1470 : decode cL_law 1470 = .ok (.iload_n 3, 1) := by decide +kernel
theorem dL_law_1471 : decode cL_law 1471 = .ok (.iconst 1, 1) := by decide +kernel
theorem dL_law_1472 : decode cL_law 1472 = .ok (.iadd, 1) := by decide +kernel
theorem dL_law_1473 : decode cL_law 1473 = .ok (.iaload, 1) := by decide +kernel
theorem dL_law_1474 : decode cL_law 1474 = .ok (.aload_n 0, 1) := by decide +kernel
theorem dL_law_1475 : decode cL_law 1475 = .ok (.iload_n 3, 1) := by decide +kernel
theorem dL_law_1476 : decode cL_law 1476 = .ok (.iconst 2, 1) := by decide +kernel
theorem dL_law_1477 : decode cL_law 1477 = .ok (.iadd, 1) := by decide +kernel
theorem dL_law_1478 : decode cL_law 1478 = .ok (.iaload, 1) := by decide +kernel
theorem dL_law_1479 : decode cL_law 1479 = .ok (.aload_n 0, 1) := by decide +kernel
theorem dL_law_1480 : decode cL_law 1480 = .ok (.iload_n 3, 1) := by decide +kernel
theorem dL_law_1481 : decode cL_law 1481 = .ok (.iconst 3, 1) := by decide +kernel
theorem dL_law_1482 : decode cL_law 1482 = .ok (.iadd, 1) := by decide +kernel
theorem dL_law_1483 : decode cL_law 1483 = .ok (.iaload, 1) := by decide +kernel
theorem dL_law_1484 : decode cL_law 1484 = .ok (.aload_n 0, 1) := by decide +kernel
theorem dL_law_1485 : decode cL_law 1485 = .ok (.iload_n 3, 1) := by decide +kernel
theorem dL_law_1486 : decode cL_law 1486 = .ok (.iconst 4, 1) := by decide +kernel
theorem dL_law_1487 : decode cL_law 1487 = .ok (.iadd, 1) := by decide +kernel
theorem dL_law_1488 : decode cL_law 1488 = .ok (.iaload, 1) := by decide +kernel
theorem dL_law_1489 : decode cL_law 1489 = .ok (.invokevirtual 168, 3) := by decide +kernel
theorem dL_law_1492 : decode cL_law 1492 = .ok (.if_icmp .eq 232, 3) := by decide +kernel
theorem dL_law_1495 : decode cL_law 1495 = .ok (.iconst 0, 1) := by decide +kernel
theorem dL_law_1496 : decode cL_law 1496 = .ok (.ireturn, 1) := by decide +kernel
theorem dL_law_1497 : decode cL_law 1497 = .ok (.aload_n 1, 1) := by decide +kernel
theorem dL_law_1498 : decode cL_law 1498 = .ok (.aload_n 0, 1) := by decide +kernel
theorem dL_law_1499 : decode cL_law 1499 = .ok (.iload_n 3, 1) := by decide +kernel
theorem dL_law_1500 : decode cL_law 1500 = .ok (.iconst 1, 1) := by decide +kernel
theorem dL_law_1501 : decode cL_law 1501 = .ok (.iadd, 1) := by decide +kernel
theorem dL_law_1502 : decode cL_law 1502 = .ok (.iaload, 1) := by decide +kernel
theorem dL_law_1503 : decode cL_law 1503 = .ok (.invokevirtual 169, 3) := by decide +kernel
theorem dL_law_1506 : decode cL_law 1506 = .ok (.aload_n 2, 1) := by decide +kernel
theorem dL_law_1507 : decode cL_law 1507 = .ok (.aload_n 0, 1) := by decide +kernel
theorem dL_law_1508 : decode cL_law 1508 = .ok (.iload_n 3, 1) := by decide +kernel
theorem dL_law_1509 : decode cL_law 1509 = .ok (.iconst 1, 1) := by decide +kernel
theorem dL_law_1510 : decode cL_law 1510 = .ok (.iadd, 1) := by decide +kernel
theorem dL_law_1511 : decode cL_law 1511 = .ok (.iaload, 1) := by decide +kernel
theorem dL_law_1512 : decode cL_law 1512 = .ok (.invokevirtual 172, 3) := by decide +kernel
theorem dL_law_1515 : decode cL_law 1515 = .ok (.if_icmp .eq 209, 3) := by decide +kernel
theorem dL_law_1518 : decode cL_law 1518 = .ok (.iconst 0, 1) := by decide +kernel
theorem dL_law_1519 : decode cL_law 1519 = .ok (.ireturn, 1) := by decide +kernel
theorem dL_law_1520 : decode cL_law 1520 = .ok (.aload_n 1, 1) := by decide +kernel
theorem dL_law_1521 : decode cL_law 1521 = .ok (.invokevirtual 173, 3) := by decide +kernel
theorem dL_law_1524 : decode cL_law 1524 = .ok (.aload_n 2, 1) := by decide +kernel
theorem dL_law_1525 : decode cL_law 1525 = .ok (.invokevirtual 176, 3) := by decide +kernel
theorem dL_law_1528 : decode cL_law 1528 = .ok (.if_icmp .eq 196, 3) := by decide +kernel
theorem dL_law_1531 : decode cL_law 1531 = .ok (.iconst 0, 1) := by decide +kernel
theorem dL_law_1532 : decode cL_law 1532 = .ok (.ireturn, 1) := by decide +kernel
theorem dL_law_1533 : decode cL_law 1533 = .ok (.aload_n 1, 1) := by decide +kernel
theorem dL_law_1534 : decode cL_law 1534 = .ok (.aload_n 0, 1) := by decide +kernel
theorem dL_law_1535 : decode cL_law 1535 = .ok (.iload_n 3, 1) := by decide +kernel
theorem dL_law_1536 : decode cL_law 1536 = .ok (.iconst 1, 1) := by decide +kernel
theorem dL_law_1537 : decode cL_law 1537 = .ok (.iadd, 1) := by decide +kernel
theorem dL_law_1538 : decode cL_law 1538 = .ok (.iaload, 1) := by decide +kernel
theorem dL_law_1539 : decode cL_law 1539 = .ok (.aload_n 0, 1) := by decide +kernel
theorem dL_law_1540 : decode cL_law 1540 = .ok (.iload_n 3, 1) := by decide +kernel
theorem dL_law_1541 : decode cL_law 1541 = .ok (.iconst 2, 1) := by decide +kernel
theorem dL_law_1542 : decode cL_law 1542 = .ok (.iadd, 1) := by decide +kernel
theorem dL_law_1543 : decode cL_law 1543 = .ok (.iaload, 1) := by decide +kernel
theorem dL_law_1544 : decode cL_law 1544 = .ok (.aload_n 0, 1) := by decide +kernel
theorem dL_law_1545 : decode cL_law 1545 = .ok (.iload_n 3, 1) := by decide +kernel
theorem dL_law_1546 : decode cL_law 1546 = .ok (.iconst 3, 1) := by decide +kernel
theorem dL_law_1547 : decode cL_law 1547 = .ok (.iadd, 1) := by decide +kernel
theorem dL_law_1548 : decode cL_law 1548 = .ok (.iaload, 1) := by decide +kernel
theorem dL_law_1549 : decode cL_law 1549 = .ok (.aload_n 0, 1) := by decide +kernel
theorem dL_law_1550 : decode cL_law 1550 = .ok (.iload_n 3, 1) := by decide +kernel
theorem dL_law_1551 : decode cL_law 1551 = .ok (.iconst 4, 1) := by decide +kernel
theorem dL_law_1552 : decode cL_law 1552 = .ok (.iadd, 1) := by decide +kernel
theorem dL_law_1553 : decode cL_law 1553 = .ok (.iaload, 1) := by decide +kernel
theorem dL_law_1554 : decode cL_law 1554 = .ok (.invokevirtual 177, 3) := by decide +kernel
theorem dL_law_1557 : decode cL_law 1557 = .ok (.aload_n 2, 1) := by decide +kernel
theorem dL_law_1558 : decode cL_law 1558 = .ok (.aload_n 0, 1) := by decide +kernel
theorem dL_law_1559 : decode cL_law 1559 = .ok (.iload_n 3, 1) := by decide +kernel
theorem dL_law_1560 : decode cL_law 1560 = .ok (.iconst 1, 1) := by decide +kernel
theorem dL_law_1561 : decode cL_law 1561 = .ok (.iadd, 1) := by decide +kernel
theorem dL_law_1562 : decode cL_law 1562 = .ok (.iaload, 1) := by decide +kernel
theorem dL_law_1563 : decode cL_law 1563 = .ok (.aload_n 0, 1) := by decide +kernel
theorem dL_law_1564 : decode cL_law 1564 = .ok (.iload_n 3, 1) := by decide +kernel
theorem dL_law_1565 : decode cL_law 1565 = .ok (.iconst 2, 1) := by decide +kernel
theorem dL_law_1566 : decode cL_law 1566 = .ok (.iadd, 1) := by decide +kernel
theorem dL_law_1567 : decode cL_law 1567 = .ok (.iaload, 1) := by decide +kernel
theorem dL_law_1568 : decode cL_law 1568 = .ok (.aload_n 0, 1) := by decide +kernel
theorem dL_law_1569 : decode cL_law 1569 = .ok (.iload_n 3, 1) := by decide +kernel
theorem dL_law_1570 : decode cL_law 1570 = .ok (.iconst 3, 1) := by decide +kernel
theorem dL_law_1571 : decode cL_law 1571 = .ok (.iadd, 1) := by decide +kernel
theorem dL_law_1572 : decode cL_law 1572 = .ok (.iaload, 1) := by decide +kernel
theorem dL_law_1573 : decode cL_law 1573 = .ok (.aload_n 0, 1) := by decide +kernel
theorem dL_law_1574 : decode cL_law 1574 = .ok (.iload_n 3, 1) := by decide +kernel
theorem dL_law_1575 : decode cL_law 1575 = .ok (.iconst 4, 1) := by decide +kernel
theorem dL_law_1576 : decode cL_law 1576 = .ok (.iadd, 1) := by decide +kernel
theorem dL_law_1577 : decode cL_law 1577 = .ok (.iaload, 1) := by decide +kernel
theorem dL_law_1578 : decode cL_law 1578 = .ok (.invokevirtual 180, 3) := by decide +kernel
theorem dL_law_1581 : decode cL_law 1581 = .ok (.if_icmp .eq 143, 3) := by decide +kernel
theorem dL_law_1584 : decode cL_law 1584 = .ok (.iconst 0, 1) := by decide +kernel
theorem dL_law_1585 : decode cL_law 1585 = .ok (.ireturn, 1) := by decide +kernel
theorem dL_law_1586 : decode cL_law 1586 = .ok (.aload_n 1, 1) := by decide +kernel
theorem dL_law_1587 : decode cL_law 1587 = .ok (.aload_n 0, 1) := by decide +kernel
theorem dL_law_1588 : decode cL_law 1588 = .ok (.iload_n 3, 1) := by decide +kernel
theorem dL_law_1589 : decode cL_law 1589 = .ok (.iconst 1, 1) := by decide +kernel
theorem dL_law_1590 : decode cL_law 1590 = .ok (.iadd, 1) := by decide +kernel
theorem dL_law_1591 : decode cL_law 1591 = .ok (.iaload, 1) := by decide +kernel
theorem dL_law_1592 : decode cL_law 1592 = .ok (.aload_n 0, 1) := by decide +kernel
theorem dL_law_1593 : decode cL_law 1593 = .ok (.iload_n 3, 1) := by decide +kernel
theorem dL_law_1594 : decode cL_law 1594 = .ok (.iconst 2, 1) := by decide +kernel
theorem dL_law_1595 : decode cL_law 1595 = .ok (.iadd, 1) := by decide +kernel
theorem dL_law_1596 : decode cL_law 1596 = .ok (.iaload, 1) := by decide +kernel
theorem dL_law_1597 : decode cL_law 1597 = .ok (.invokevirtual 181, 3) := by decide +kernel
theorem dL_law_1600 : decode cL_law 1600 = .ok (.aload_n 2, 1) := by decide +kernel
theorem dL_law_1601 : decode cL_law 1601 = .ok (.aload_n 0, 1) := by decide +kernel
theorem dL_law_1602 : decode cL_law 1602 = .ok (.iload_n 3, 1) := by decide +kernel
theorem dL_law_1603 : decode cL_law 1603 = .ok (.iconst 1, 1) := by decide +kernel
theorem dL_law_1604 : decode cL_law 1604 = .ok (.iadd, 1) := by decide +kernel
theorem dL_law_1605 : decode cL_law 1605 = .ok (.iaload, 1) := by decide +kernel
theorem dL_law_1606 : decode cL_law 1606 = .ok (.aload_n 0, 1) := by decide +kernel
theorem dL_law_1607 : decode cL_law 1607 = .ok (.iload_n 3, 1) := by decide +kernel
theorem dL_law_1608 : decode cL_law 1608 = .ok (.iconst 2, 1) := by decide +kernel
theorem dL_law_1609 : decode cL_law 1609 = .ok (.iadd, 1) := by decide +kernel
theorem dL_law_1610 : decode cL_law 1610 = .ok (.iaload, 1) := by decide +kernel
theorem dL_law_1611 : decode cL_law 1611 = .ok (.invokevirtual 184, 3) := by decide +kernel
theorem dL_law_1614 : decode cL_law 1614 = .ok (.if_icmp .eq 110, 3) := by decide +kernel
theorem dL_law_1617 : decode cL_law 1617 = .ok (.iconst 0, 1) := by decide +kernel
theorem dL_law_1618 : decode cL_law 1618 = .ok (.ireturn, 1) := by decide +kernel
theorem dL_law_1619 : decode cL_law 1619 = .ok (.aload_n 1, 1) := by decide +kernel
theorem dL_law_1620 : decode cL_law 1620 = .ok (.aload_n 0, 1) := by decide +kernel
theorem dL_law_1621 : decode cL_law 1621 = .ok (.iload_n 3, 1) := by decide +kernel
theorem dL_law_1622 : decode cL_law 1622 = .ok (.iconst 1, 1) := by decide +kernel
theorem dL_law_1623 : decode cL_law 1623 = .ok (.iadd, 1) := by decide +kernel
theorem dL_law_1624 : decode cL_law 1624 = .ok (.iaload, 1) := by decide +kernel
theorem dL_law_1625 : decode cL_law 1625 = .ok (.invokevirtual 185, 3) := by decide +kernel
theorem dL_law_1628 : decode cL_law 1628 = .ok (.aload_n 2, 1) := by decide +kernel
theorem dL_law_1629 : decode cL_law 1629 = .ok (.aload_n 0, 1) := by decide +kernel
theorem dL_law_1630 : decode cL_law 1630 = .ok (.iload_n 3, 1) := by decide +kernel
theorem dL_law_1631 : decode cL_law 1631 = .ok (.iconst 1, 1) := by decide +kernel
theorem dL_law_1632 : decode cL_law 1632 = .ok (.iadd, 1) := by decide +kernel
theorem dL_law_1633 : decode cL_law 1633 = .ok (.iaload, 1) := by decide +kernel
theorem dL_law_1634 : decode cL_law 1634 = .ok (.invokevirtual 188, 3) := by decide +kernel
theorem dL_law_1637 : decode cL_law 1637 = .ok (.if_icmp .eq 87, 3) := by decide +kernel
theorem dL_law_1640 : decode cL_law 1640 = .ok (.iconst 0, 1) := by decide +kernel
theorem dL_law_1641 : decode cL_law 1641 = .ok (.ireturn, 1) := by decide +kernel
theorem dL_law_1642 : decode cL_law 1642 = .ok (.aload_n 1, 1) := by decide +kernel
theorem dL_law_1643 : decode cL_law 1643 = .ok (.aload_n 0, 1) := by decide +kernel
theorem dL_law_1644 : decode cL_law 1644 = .ok (.iload_n 3, 1) := by decide +kernel
theorem dL_law_1645 : decode cL_law 1645 = .ok (.iconst 1, 1) := by decide +kernel
theorem dL_law_1646 : decode cL_law 1646 = .ok (.iadd, 1) := by decide +kernel
theorem dL_law_1647 : decode cL_law 1647 = .ok (.iaload, 1) := by decide +kernel
theorem dL_law_1648 : decode cL_law 1648 = .ok (.invokevirtual 189, 3) := by decide +kernel
theorem dL_law_1651 : decode cL_law 1651 = .ok (.aload_n 2, 1) := by decide +kernel
theorem dL_law_1652 : decode cL_law 1652 = .ok (.aload_n 0, 1) := by decide +kernel
theorem dL_law_1653 : decode cL_law 1653 = .ok (.iload_n 3, 1) := by decide +kernel
theorem dL_law_1654 : decode cL_law 1654 = .ok (.iconst 1, 1) := by decide +kernel
theorem dL_law_1655 : decode cL_law 1655 = .ok (.iadd, 1) := by decide +kernel
theorem dL_law_1656 : decode cL_law 1656 = .ok (.iaload, 1) := by decide +kernel
theorem dL_law_1657 : decode cL_law 1657 = .ok (.invokevirtual 192, 3) := by decide +kernel
theorem dL_law_1660 : decode cL_law 1660 = .ok (.if_icmp .eq 64, 3) := by decide +kernel
theorem dL_law_1663 : decode cL_law 1663 = .ok (.iconst 0, 1) := by decide +kernel
theorem dL_law_1664 : decode cL_law 1664 = .ok (.ireturn, 1) := by decide +kernel
theorem dL_law_1665 : decode cL_law 1665 = .ok (.aload_n 1, 1) := by decide +kernel
theorem dL_law_1666 : decode cL_law 1666 = .ok (.aload_n 0, 1) := by decide +kernel
theorem dL_law_1667 : decode cL_law 1667 = .ok (.iload_n 3, 1) := by decide +kernel
theorem dL_law_1668 : decode cL_law 1668 = .ok (.iconst 1, 1) := by decide +kernel
theorem dL_law_1669 : decode cL_law 1669 = .ok (.iadd, 1) := by decide +kernel
theorem dL_law_1670 : decode cL_law 1670 = .ok (.iaload, 1) := by decide +kernel
theorem dL_law_1671 : decode cL_law 1671 = .ok (.invokevirtual 193, 3) := by decide +kernel
theorem dL_law_1674 : decode cL_law 1674 = .ok (.aload_n 2, 1) := by decide +kernel
theorem dL_law_1675 : decode cL_law 1675 = .ok (.aload_n 0, 1) := by decide +kernel
theorem dL_law_1676 : decode cL_law 1676 = .ok (.iload_n 3, 1) := by decide +kernel
theorem dL_law_1677 : decode cL_law 1677 = .ok (.iconst 1, 1) := by decide +kernel
theorem dL_law_1678 : decode cL_law 1678 = .ok (.iadd, 1) := by decide +kernel
theorem dL_law_1679 : decode cL_law 1679 = .ok (.iaload, 1) := by decide +kernel
theorem dL_law_1680 : decode cL_law 1680 = .ok (.invokevirtual 196, 3) := by decide +kernel
theorem dL_law_1683 : decode cL_law 1683 = .ok (.if_icmp .eq 41, 3) := by decide +kernel
theorem dL_law_1686 : decode cL_law 1686 = .ok (.iconst 0, 1) := by decide +kernel
theorem dL_law_1687 : decode cL_law 1687 = .ok (.ireturn, 1) := by decide +kernel
theorem dL_law_1688 : decode cL_law 1688 = .ok (.aload_n 1, 1) := by decide +kernel
theorem dL_law_1689 : decode cL_law 1689 = .ok (.aload_n 0, 1) := by decide +kernel
theorem dL_law_1690 : decode cL_law 1690 = .ok (.iload_n 3, 1) := by decide +kernel
theorem dL_law_1691 : decode cL_law 1691 = .ok (.iconst 1, 1) := by decide +kernel
theorem dL_law_1692 : decode cL_law 1692 = .ok (.iadd, 1) := by decide +kernel
theorem dL_law_1693 : decode cL_law 1693 = .ok (.iaload, 1) := by decide +kernel
theorem dL_law_1694 : decode cL_law 1694 = .ok (.invokevirtual 197, 3) := by decide +kernel
theorem dL_law_1697 : decode cL_law 1697 = .ok (.aload_n 2, 1) := by decide +kernel
theorem dL_law_1698 : decode cL_law 1698 = .ok (.aload_n 0, 1) := by decide +kernel
theorem dL_law_1699 : decode cL_law 1699 = .ok (.iload_n 3, 1) := by decide +kernel
theorem dL_law_1700 : decode cL_law 1700 = .ok (.iconst 1, 1) := by decide +kernel
theorem dL_law_1701 : decode cL_law 1701 = .ok (.iadd, 1) := by decide +kernel
theorem dL_law_1702 : decode cL_law 1702 = .ok (.iaload, 1) := by decide +kernel
theorem dL_law_1703 : decode cL_law 1703 = .ok (.invokevirtual 200, 3) := by decide +kernel
theorem dL_law_1706 : decode cL_law 1706 = .ok (.if_icmp .eq 18, 3) := by decide +kernel
theorem dL_law_1709 : decode cL_law 1709 = .ok (.iconst 0, 1) := by decide +kernel
theorem dL_law_1710 : decode cL_law 1710 = .ok (.ireturn, 1) := by decide +kernel
theorem dL_law_1711 : decode cL_law 1711 = .ok (.aload_n 1, 1) := by decide +kernel
theorem dL_law_1712 : decode cL_law 1712 = .ok (.invokevirtual 201, 3) := by decide +kernel
theorem dL_law_1715 : decode cL_law 1715 = .ok (.aload_n 2, 1) := by decide +kernel
theorem dL_law_1716 : decode cL_law 1716 = .ok (.invokevirtual 204, 3) := by decide +kernel
theorem dL_law_1719 : decode cL_law 1719 = .ok (.if_icmp .eq 5, 3) := by decide +kernel
theorem dL_law_1722 : decode cL_law 1722 = .ok (.iconst 0, 1) := by decide +kernel
theorem dL_law_1723 : decode cL_law 1723 = .ok (.ireturn, 1) := by decide +kernel
theorem dL_law_1724 : decode cL_law 1724 = .ok (.iinc 3 7, 3) := by decide +kernel
theorem dL_law_1727 : decode cL_law 1727 = .ok (.goto (-1709), 3) := by decide +kernel
theorem dL_law_1730 : decode cL_law 1730 = .ok (.iconst 1, 1) := by decide +kernel
theorem dL_law_1731 : decode cL_law 1731 = .ok (.ireturn, 1) := by decide +kernel
abbrev m_L : s_M := (yL_law, code, 4, some .boolean)
def s_GL (b L : Nat) (xs : Nat → Int32) : s_X := fun s A => va_X b L xs s s.heap ∧ b < s.heap.size ∧ ¬ A b
theorem v_sld {P : s_C} {k u n pc : Nat} {h : Nat → sE} {lv : List (Nat × Value)} {st : List Value} {b L : Nat} {xs : Nat → Int32} {x : Int32} (hG : P.2.2.2.2.2.2 = s_GL b L xs) (hdg : decode P.1.2.1 pc = .ok (.iaload, 1)) (hin : vp_in x L) (kk : V P k u n h (pc + 1) lv (.int (xs x.toNatClampNeg) :: st)) : V P k u n h pc lv (.int x :: .retAddr b :: st) := by
  intro l D A al0 p e s m args below meth c E al be H locs ls ha hW hS hl
  have G := E.2.2.2.2.2.2.2.1.2
  rw [hG] at G
  exact va_sld E.1 E.2.1 G.1 G.2.1 G.2.2 hS hin hdg (kk l D A al0 p e s m args below meth c E al be H locs ls ha hW hS hl)
theorem v_slen {P : s_C} {k u n pc : Nat} {h : Nat → sE} {lv : List (Nat × Value)} {st : List Value} {b L : Nat} {xs : Nat → Int32} (hG : P.2.2.2.2.2.2 = s_GL b L xs) (hdg : decode P.1.2.1 pc = .ok (.arraylength, 1)) (kk : V P k u n h (pc + 1) lv (.int (iI (L : Int)) :: st)) : V P k u n h pc lv (.retAddr b :: st) := by
  intro l D A al0 p e s m args below meth c E al be H locs ls ha hW hS hl
  have G := E.2.2.2.2.2.2.2.1.2
  rw [hG] at G
  refine va_slen E.1 E.2.1 G.1 G.2.1 G.2.2 hS hdg ?_
  rw [← Int32.ofInt_eq_ofNat]
  exact kk l D A al0 p e s m args below meth c E al be H locs ls ha hW hS hl
theorem v_icmp_same {P : s_C} {k u n pc : Nat} {h : Nat → sE} {lv : List (Nat × Value)} {st : List Value} {x : Int32} {off : Int} {tgt : Nat} (hdg : decode P.1.2.1 pc = .ok (.if_icmp .eq off, 3)) (ht : (pc : Int) + off = (tgt : Int)) (kt : V P k u n h tgt lv st) : V P k u n h pc lv (.int x :: .int x :: st) := v_icmp_eq hdg ht (fun _ => kt) (fun q => absurd rfl q)
theorem v_lcmp_same {P : s_C} {k u n pc : Nat} {h : Nat → sE} {lv : List (Nat × Value)} {st : List Value} {x : Int64} {off : Int} {tgt : Nat} (hdg : decode P.1.2.1 pc = .ok (.lcmp, 1)) (hdg2 : decode P.1.2.1 (pc + 1) = .ok (.ifCond .eq off, 3)) (ht : ((pc + 1 : Nat) : Int) + off = (tgt : Int)) (kt : V P k u n h tgt lv st) : V P k u n h pc lv (.long x :: .long x :: st) := v_lcmp hdg (v_if_eq hdg2 ht (fun _ => kt) (fun q => absurd (by unfold lg_cmp; rw [if_neg (fun q2 : x > x => absurd (Int64.lt_iff_toInt_lt.mp q2) (by omega)), if_pos rfl]) q))
theorem law_lvok {n b : Nat} {x : Int32} (hn : 115 ≤ n) : ∀ q ∈ [((3 : Nat), Value.int x), (2, .ref 77), (1, .ref 0), (0, .retAddr b)], s_ok n q.2 := by
  intro q hq
  simp only [List.mem_cons, List.not_mem_nil, or_false] at hq
  rcases hq with rfl | rfl | rfl | rfl
  · trivial
  · exact Nat.lt_of_lt_of_le (by decide) hn
  · exact Nat.lt_of_lt_of_le (by decide) hn
  · trivial
set_option maxRecDepth 10000 in
theorem law_case_0 {INV : Nat → (Nat → sE) → Prop} (hIn : ∀ n h, INV n h → 115 ≤ n ∧ ∃ fs, h 0 = .inr (11, fs)) (p0 : ∀ a1 a2 a3 : Int32, Pair m_X11_put m_X12_put 0 0 INV [.int a1, .int a2, .int a3]) {b L : Nat} {xs : Nat → Int32} (hL : L ≤ 3584) (j n k u : Nat) (h : Nat → sE) (hI : INV n h) (hj : 7 * (j : Int) + 7 ≤ L) (hk : k ≤ 115 + 3 * j) (hu : u ≤ 178400 + 900 * j) (next : ∀ (n k u : Nat) (h : Nat → sE), INV n h → k ≤ 115 + 3 * (j + 1) → u ≤ 178400 + 900 * (j + 1) → V (m_L, 2048, 600000, 7302250, 0, (fun r _ _ => r = some (.int (iI 1))), s_GL b L xs) k u n h 1724 [(3, .int (iI (7 * (j : Int)))), (2, .ref 77), (1, .ref 0), (0, .retAddr b)] []) : V (m_L, 2048, 600000, 7302250, 0, (fun r _ _ => r = some (.int (iI 1))), s_GL b L xs) k u n h 232 [(3, .int (iI (7 * (j : Int)))), (2, .ref 77), (1, .ref 0), (0, .retAddr b)] [] := by
  obtain ⟨hn, fs0, hf0⟩ := hIn n h hI
  obtain ⟨dx, dm, hdx, hdm, hsp⟩ := p0 (xs (iI (7 * (j : Int) + 1)).toNatClampNeg) (xs (iI (7 * (j : Int) + 2)).toNatClampNeg) (xs (iI (7 * (j : Int) + 3)).toNatClampNeg) n h hI
  refine v_aload_n dL_law_232 rfl ?_
  refine v_aload_no dL_law_233 rfl ?_
  refine v_iload_n dL_law_234 rfl ?_
  refine v_iconstI dL_law_235 ?_
  refine v_iaddI dL_law_236 ?_
  refine v_sld rfl dL_law_237 (iI_in (by omega) (by omega) (by omega)) ?_
  refine v_aload_no dL_law_238 rfl ?_
  refine v_iload_n dL_law_239 rfl ?_
  refine v_iconstI dL_law_240 ?_
  refine v_iaddI dL_law_241 ?_
  refine v_sld rfl dL_law_242 (iI_in (by omega) (by omega) (by omega)) ?_
  refine v_aload_no dL_law_243 rfl ?_
  refine v_iload_n dL_law_244 rfl ?_
  refine v_iconstI dL_law_245 ?_
  refine v_iaddI dL_law_246 ?_
  refine v_sld rfl dL_law_247 (iI_in (by omega) (by omega) (by omega)) ?_
  refine v_callV dL_law_248 ml_L_13 hsp hf0 rfl (s_lt hn rfl) rfl rfl (Nat.le_of_ble_eq_true rfl) hdx (show k + 0 ≤ 600000 by omega) (show u + 0 ≤ 7302250 by omega) ⟨Or.inr ⟨law_lvok hn, fun v hv => by cases hv⟩, fun r n1 h1 q => ?_⟩
  obtain ⟨v, rfl, ⟨hn1, fs1, hf1⟩, hsp1⟩ := q
  dsimp only [s_push]
  refine v_aload_n dL_law_251 rfl ?_
  refine v_aload_no dL_law_252 rfl ?_
  refine v_iload_n dL_law_253 rfl ?_
  refine v_iconstI dL_law_254 ?_
  refine v_iaddI dL_law_255 ?_
  refine v_sld rfl dL_law_256 (iI_in (by omega) (by omega) (by omega)) ?_
  refine v_aload_no dL_law_257 rfl ?_
  refine v_iload_n dL_law_258 rfl ?_
  refine v_iconstI dL_law_259 ?_
  refine v_iaddI dL_law_260 ?_
  refine v_sld rfl dL_law_261 (iI_in (by omega) (by omega) (by omega)) ?_
  refine v_aload_no dL_law_262 rfl ?_
  refine v_iload_n dL_law_263 rfl ?_
  refine v_iconstI dL_law_264 ?_
  refine v_iaddI dL_law_265 ?_
  refine v_sld rfl dL_law_266 (iI_in (by omega) (by omega) (by omega)) ?_
  refine v_callV dL_law_267 ml_L_17 hsp1 hf1 rfl (s_lt hn1 rfl) rfl rfl (Nat.le_of_ble_eq_true rfl) hdm (show k + 0 + 0 ≤ 600000 by omega) (show u + 0 + 0 ≤ 7302250 by omega) ⟨Or.inl (fun _ _ _ q => q.1), fun r n2 h2 q => ?_⟩
  obtain ⟨rfl, rfl, hI2⟩ := q
  dsimp only [s_push]
  refine v_icmp_same (tgt := 1724) dL_law_270 (by decide) ?_
  exact next _ _ _ _ hI2 (by omega) (by omega)
set_option maxRecDepth 10000 in
theorem law_case_1 {INV : Nat → (Nat → sE) → Prop} (hIn : ∀ n h, INV n h → 115 ≤ n ∧ ∃ fs, h 0 = .inr (11, fs)) (p1 : ∀ a1 a2 : Int32, Pair m_X11_fact m_X12_fact 0 0 INV [.int a1, .int a2]) {b L : Nat} {xs : Nat → Int32} (hL : L ≤ 3584) (j n k u : Nat) (h : Nat → sE) (hI : INV n h) (hj : 7 * (j : Int) + 7 ≤ L) (hk : k ≤ 115 + 3 * j) (hu : u ≤ 178400 + 900 * j) (next : ∀ (n k u : Nat) (h : Nat → sE), INV n h → k ≤ 115 + 3 * (j + 1) → u ≤ 178400 + 900 * (j + 1) → V (m_L, 2048, 600000, 7302250, 0, (fun r _ _ => r = some (.int (iI 1))), s_GL b L xs) k u n h 1724 [(3, .int (iI (7 * (j : Int)))), (2, .ref 77), (1, .ref 0), (0, .retAddr b)] []) : V (m_L, 2048, 600000, 7302250, 0, (fun r _ _ => r = some (.int (iI 1))), s_GL b L xs) k u n h 275 [(3, .int (iI (7 * (j : Int)))), (2, .ref 77), (1, .ref 0), (0, .retAddr b)] [] := by
  obtain ⟨hn, fs0, hf0⟩ := hIn n h hI
  obtain ⟨dx, dm, hdx, hdm, hsp⟩ := p1 (xs (iI (7 * (j : Int) + 1)).toNatClampNeg) (xs (iI (7 * (j : Int) + 2)).toNatClampNeg) n h hI
  refine v_aload_n dL_law_275 rfl ?_
  refine v_aload_no dL_law_276 rfl ?_
  refine v_iload_n dL_law_277 rfl ?_
  refine v_iconstI dL_law_278 ?_
  refine v_iaddI dL_law_279 ?_
  refine v_sld rfl dL_law_280 (iI_in (by omega) (by omega) (by omega)) ?_
  refine v_aload_no dL_law_281 rfl ?_
  refine v_iload_n dL_law_282 rfl ?_
  refine v_iconstI dL_law_283 ?_
  refine v_iaddI dL_law_284 ?_
  refine v_sld rfl dL_law_285 (iI_in (by omega) (by omega) (by omega)) ?_
  refine v_callV dL_law_286 ml_L_18 hsp hf0 rfl (s_lt hn rfl) rfl rfl (Nat.le_of_ble_eq_true rfl) hdx (show k + 0 ≤ 600000 by omega) (show u + 0 ≤ 7302250 by omega) ⟨Or.inr ⟨law_lvok hn, fun v hv => by cases hv⟩, fun r n1 h1 q => ?_⟩
  obtain ⟨v, rfl, ⟨hn1, fs1, hf1⟩, hsp1⟩ := q
  dsimp only [s_push]
  refine v_aload_n dL_law_289 rfl ?_
  refine v_aload_no dL_law_290 rfl ?_
  refine v_iload_n dL_law_291 rfl ?_
  refine v_iconstI dL_law_292 ?_
  refine v_iaddI dL_law_293 ?_
  refine v_sld rfl dL_law_294 (iI_in (by omega) (by omega) (by omega)) ?_
  refine v_aload_no dL_law_295 rfl ?_
  refine v_iload_n dL_law_296 rfl ?_
  refine v_iconstI dL_law_297 ?_
  refine v_iaddI dL_law_298 ?_
  refine v_sld rfl dL_law_299 (iI_in (by omega) (by omega) (by omega)) ?_
  refine v_callV dL_law_300 ml_L_22 hsp1 hf1 rfl (s_lt hn1 rfl) rfl rfl (Nat.le_of_ble_eq_true rfl) hdm (show k + 0 + 0 ≤ 600000 by omega) (show u + 0 + 0 ≤ 7302250 by omega) ⟨Or.inl (fun _ _ _ q => q.1), fun r n2 h2 q => ?_⟩
  obtain ⟨rfl, rfl, hI2⟩ := q
  dsimp only [s_push]
  refine v_icmp_same (tgt := 1724) dL_law_303 (by decide) ?_
  exact next _ _ _ _ hI2 (by omega) (by omega)
set_option maxRecDepth 10000 in
theorem law_case_2 {INV : Nat → (Nat → sE) → Prop} (hIn : ∀ n h, INV n h → 115 ≤ n ∧ ∃ fs, h 0 = .inr (11, fs)) (p2 : ∀ a1 a2 a3 : Int32, Pair m_X11_wind m_X12_wind 0 0 INV [.int a1, .int a2, .int a3]) {b L : Nat} {xs : Nat → Int32} (hL : L ≤ 3584) (j n k u : Nat) (h : Nat → sE) (hI : INV n h) (hj : 7 * (j : Int) + 7 ≤ L) (hk : k ≤ 115 + 3 * j) (hu : u ≤ 178400 + 900 * j) (next : ∀ (n k u : Nat) (h : Nat → sE), INV n h → k ≤ 115 + 3 * (j + 1) → u ≤ 178400 + 900 * (j + 1) → V (m_L, 2048, 600000, 7302250, 0, (fun r _ _ => r = some (.int (iI 1))), s_GL b L xs) k u n h 1724 [(3, .int (iI (7 * (j : Int)))), (2, .ref 77), (1, .ref 0), (0, .retAddr b)] []) : V (m_L, 2048, 600000, 7302250, 0, (fun r _ _ => r = some (.int (iI 1))), s_GL b L xs) k u n h 308 [(3, .int (iI (7 * (j : Int)))), (2, .ref 77), (1, .ref 0), (0, .retAddr b)] [] := by
  obtain ⟨hn, fs0, hf0⟩ := hIn n h hI
  obtain ⟨dx, dm, hdx, hdm, hsp⟩ := p2 (xs (iI (7 * (j : Int) + 1)).toNatClampNeg) (xs (iI (7 * (j : Int) + 2)).toNatClampNeg) (xs (iI (7 * (j : Int) + 3)).toNatClampNeg) n h hI
  refine v_aload_n dL_law_308 rfl ?_
  refine v_aload_no dL_law_309 rfl ?_
  refine v_iload_n dL_law_310 rfl ?_
  refine v_iconstI dL_law_311 ?_
  refine v_iaddI dL_law_312 ?_
  refine v_sld rfl dL_law_313 (iI_in (by omega) (by omega) (by omega)) ?_
  refine v_aload_no dL_law_314 rfl ?_
  refine v_iload_n dL_law_315 rfl ?_
  refine v_iconstI dL_law_316 ?_
  refine v_iaddI dL_law_317 ?_
  refine v_sld rfl dL_law_318 (iI_in (by omega) (by omega) (by omega)) ?_
  refine v_aload_no dL_law_319 rfl ?_
  refine v_iload_n dL_law_320 rfl ?_
  refine v_iconstI dL_law_321 ?_
  refine v_iaddI dL_law_322 ?_
  refine v_sld rfl dL_law_323 (iI_in (by omega) (by omega) (by omega)) ?_
  refine v_callV dL_law_324 ml_L_23 hsp hf0 rfl (s_lt hn rfl) rfl rfl (Nat.le_of_ble_eq_true rfl) hdx (show k + 0 ≤ 600000 by omega) (show u + 0 ≤ 7302250 by omega) ⟨Or.inr ⟨law_lvok hn, fun v hv => by cases hv⟩, fun r n1 h1 q => ?_⟩
  obtain ⟨v, rfl, ⟨hn1, fs1, hf1⟩, hsp1⟩ := q
  dsimp only [s_push]
  refine v_aload_n dL_law_327 rfl ?_
  refine v_aload_no dL_law_328 rfl ?_
  refine v_iload_n dL_law_329 rfl ?_
  refine v_iconstI dL_law_330 ?_
  refine v_iaddI dL_law_331 ?_
  refine v_sld rfl dL_law_332 (iI_in (by omega) (by omega) (by omega)) ?_
  refine v_aload_no dL_law_333 rfl ?_
  refine v_iload_n dL_law_334 rfl ?_
  refine v_iconstI dL_law_335 ?_
  refine v_iaddI dL_law_336 ?_
  refine v_sld rfl dL_law_337 (iI_in (by omega) (by omega) (by omega)) ?_
  refine v_aload_no dL_law_338 rfl ?_
  refine v_iload_n dL_law_339 rfl ?_
  refine v_iconstI dL_law_340 ?_
  refine v_iaddI dL_law_341 ?_
  refine v_sld rfl dL_law_342 (iI_in (by omega) (by omega) (by omega)) ?_
  refine v_callV dL_law_343 ml_L_26 hsp1 hf1 rfl (s_lt hn1 rfl) rfl rfl (Nat.le_of_ble_eq_true rfl) hdm (show k + 0 + 0 ≤ 600000 by omega) (show u + 0 + 0 ≤ 7302250 by omega) ⟨Or.inl (fun _ _ _ q => q.1), fun r n2 h2 q => ?_⟩
  obtain ⟨rfl, rfl, hI2⟩ := q
  dsimp only [s_push]
  refine v_icmp_same (tgt := 1724) dL_law_346 (by decide) ?_
  exact next _ _ _ _ hI2 (by omega) (by omega)
set_option maxRecDepth 10000 in
theorem law_case_3 {INV : Nat → (Nat → sE) → Prop} (hIn : ∀ n h, INV n h → 115 ≤ n ∧ ∃ fs, h 0 = .inr (11, fs)) (p3 : ∀ a1 a2 a3 a4 a5 : Int32, Pair m_X11_cloud m_X12_cloud 0 0 INV [.int a1, .int a2, .int a3, .int a4, .int a5]) {b L : Nat} {xs : Nat → Int32} (hL : L ≤ 3584) (j n k u : Nat) (h : Nat → sE) (hI : INV n h) (hj : 7 * (j : Int) + 7 ≤ L) (hk : k ≤ 115 + 3 * j) (hu : u ≤ 178400 + 900 * j) (next : ∀ (n k u : Nat) (h : Nat → sE), INV n h → k ≤ 115 + 3 * (j + 1) → u ≤ 178400 + 900 * (j + 1) → V (m_L, 2048, 600000, 7302250, 0, (fun r _ _ => r = some (.int (iI 1))), s_GL b L xs) k u n h 1724 [(3, .int (iI (7 * (j : Int)))), (2, .ref 77), (1, .ref 0), (0, .retAddr b)] []) : V (m_L, 2048, 600000, 7302250, 0, (fun r _ _ => r = some (.int (iI 1))), s_GL b L xs) k u n h 351 [(3, .int (iI (7 * (j : Int)))), (2, .ref 77), (1, .ref 0), (0, .retAddr b)] [] := by
  obtain ⟨hn, fs0, hf0⟩ := hIn n h hI
  obtain ⟨dx, dm, hdx, hdm, hsp⟩ := p3 (xs (iI (7 * (j : Int) + 1)).toNatClampNeg) (xs (iI (7 * (j : Int) + 2)).toNatClampNeg) (xs (iI (7 * (j : Int) + 3)).toNatClampNeg) (xs (iI (7 * (j : Int) + 4)).toNatClampNeg) (xs (iI (7 * (j : Int) + 5)).toNatClampNeg) n h hI
  refine v_aload_n dL_law_351 rfl ?_
  refine v_aload_no dL_law_352 rfl ?_
  refine v_iload_n dL_law_353 rfl ?_
  refine v_iconstI dL_law_354 ?_
  refine v_iaddI dL_law_355 ?_
  refine v_sld rfl dL_law_356 (iI_in (by omega) (by omega) (by omega)) ?_
  refine v_aload_no dL_law_357 rfl ?_
  refine v_iload_n dL_law_358 rfl ?_
  refine v_iconstI dL_law_359 ?_
  refine v_iaddI dL_law_360 ?_
  refine v_sld rfl dL_law_361 (iI_in (by omega) (by omega) (by omega)) ?_
  refine v_aload_no dL_law_362 rfl ?_
  refine v_iload_n dL_law_363 rfl ?_
  refine v_iconstI dL_law_364 ?_
  refine v_iaddI dL_law_365 ?_
  refine v_sld rfl dL_law_366 (iI_in (by omega) (by omega) (by omega)) ?_
  refine v_aload_no dL_law_367 rfl ?_
  refine v_iload_n dL_law_368 rfl ?_
  refine v_iconstI dL_law_369 ?_
  refine v_iaddI dL_law_370 ?_
  refine v_sld rfl dL_law_371 (iI_in (by omega) (by omega) (by omega)) ?_
  refine v_aload_no dL_law_372 rfl ?_
  refine v_iload_n dL_law_373 rfl ?_
  refine v_iconstI dL_law_374 ?_
  refine v_iaddI dL_law_375 ?_
  refine v_sld rfl dL_law_376 (iI_in (by omega) (by omega) (by omega)) ?_
  refine v_callV dL_law_377 ml_L_27 hsp hf0 rfl (s_lt hn rfl) rfl rfl (Nat.le_of_ble_eq_true rfl) hdx (show k + 0 ≤ 600000 by omega) (show u + 0 ≤ 7302250 by omega) ⟨Or.inr ⟨law_lvok hn, fun v hv => by cases hv⟩, fun r n1 h1 q => ?_⟩
  obtain ⟨v, rfl, ⟨hn1, fs1, hf1⟩, hsp1⟩ := q
  dsimp only [s_push]
  refine v_aload_n dL_law_380 rfl ?_
  refine v_aload_no dL_law_381 rfl ?_
  refine v_iload_n dL_law_382 rfl ?_
  refine v_iconstI dL_law_383 ?_
  refine v_iaddI dL_law_384 ?_
  refine v_sld rfl dL_law_385 (iI_in (by omega) (by omega) (by omega)) ?_
  refine v_aload_no dL_law_386 rfl ?_
  refine v_iload_n dL_law_387 rfl ?_
  refine v_iconstI dL_law_388 ?_
  refine v_iaddI dL_law_389 ?_
  refine v_sld rfl dL_law_390 (iI_in (by omega) (by omega) (by omega)) ?_
  refine v_aload_no dL_law_391 rfl ?_
  refine v_iload_n dL_law_392 rfl ?_
  refine v_iconstI dL_law_393 ?_
  refine v_iaddI dL_law_394 ?_
  refine v_sld rfl dL_law_395 (iI_in (by omega) (by omega) (by omega)) ?_
  refine v_aload_no dL_law_396 rfl ?_
  refine v_iload_n dL_law_397 rfl ?_
  refine v_iconstI dL_law_398 ?_
  refine v_iaddI dL_law_399 ?_
  refine v_sld rfl dL_law_400 (iI_in (by omega) (by omega) (by omega)) ?_
  refine v_aload_no dL_law_401 rfl ?_
  refine v_iload_n dL_law_402 rfl ?_
  refine v_iconstI dL_law_403 ?_
  refine v_iaddI dL_law_404 ?_
  refine v_sld rfl dL_law_405 (iI_in (by omega) (by omega) (by omega)) ?_
  refine v_callV dL_law_406 ml_L_31 hsp1 hf1 rfl (s_lt hn1 rfl) rfl rfl (Nat.le_of_ble_eq_true rfl) hdm (show k + 0 + 0 ≤ 600000 by omega) (show u + 0 + 0 ≤ 7302250 by omega) ⟨Or.inl (fun _ _ _ q => q.1), fun r n2 h2 q => ?_⟩
  obtain ⟨rfl, rfl, hI2⟩ := q
  dsimp only [s_push]
  refine v_icmp_same (tgt := 1724) dL_law_409 (by decide) ?_
  exact next _ _ _ _ hI2 (by omega) (by omega)
set_option maxRecDepth 10000 in
theorem law_case_4 {INV : Nat → (Nat → sE) → Prop} (hIn : ∀ n h, INV n h → 115 ≤ n ∧ ∃ fs, h 0 = .inr (11, fs)) (p4 : ∀ a1 a2 : Int32, Pair m_X11_of m_X12_of 0 0 INV [.int a1, .int a2]) {b L : Nat} {xs : Nat → Int32} (hL : L ≤ 3584) (j n k u : Nat) (h : Nat → sE) (hI : INV n h) (hj : 7 * (j : Int) + 7 ≤ L) (hk : k ≤ 115 + 3 * j) (hu : u ≤ 178400 + 900 * j) (next : ∀ (n k u : Nat) (h : Nat → sE), INV n h → k ≤ 115 + 3 * (j + 1) → u ≤ 178400 + 900 * (j + 1) → V (m_L, 2048, 600000, 7302250, 0, (fun r _ _ => r = some (.int (iI 1))), s_GL b L xs) k u n h 1724 [(3, .int (iI (7 * (j : Int)))), (2, .ref 77), (1, .ref 0), (0, .retAddr b)] []) : V (m_L, 2048, 600000, 7302250, 0, (fun r _ _ => r = some (.int (iI 1))), s_GL b L xs) k u n h 414 [(3, .int (iI (7 * (j : Int)))), (2, .ref 77), (1, .ref 0), (0, .retAddr b)] [] := by
  obtain ⟨hn, fs0, hf0⟩ := hIn n h hI
  obtain ⟨dx, dm, hdx, hdm, hsp⟩ := p4 (xs (iI (7 * (j : Int) + 1)).toNatClampNeg) (xs (iI (7 * (j : Int) + 2)).toNatClampNeg) n h hI
  refine v_aload_n dL_law_414 rfl ?_
  refine v_aload_no dL_law_415 rfl ?_
  refine v_iload_n dL_law_416 rfl ?_
  refine v_iconstI dL_law_417 ?_
  refine v_iaddI dL_law_418 ?_
  refine v_sld rfl dL_law_419 (iI_in (by omega) (by omega) (by omega)) ?_
  refine v_aload_no dL_law_420 rfl ?_
  refine v_iload_n dL_law_421 rfl ?_
  refine v_iconstI dL_law_422 ?_
  refine v_iaddI dL_law_423 ?_
  refine v_sld rfl dL_law_424 (iI_in (by omega) (by omega) (by omega)) ?_
  refine v_callV dL_law_425 ml_L_32 hsp hf0 rfl (s_lt hn rfl) rfl rfl (Nat.le_of_ble_eq_true rfl) hdx (show k + 0 ≤ 600000 by omega) (show u + 0 ≤ 7302250 by omega) ⟨Or.inr ⟨law_lvok hn, fun v hv => by cases hv⟩, fun r n1 h1 q => ?_⟩
  obtain ⟨v, rfl, ⟨hn1, fs1, hf1⟩, hsp1⟩ := q
  dsimp only [s_push]
  refine v_aload_n dL_law_428 rfl ?_
  refine v_aload_no dL_law_429 rfl ?_
  refine v_iload_n dL_law_430 rfl ?_
  refine v_iconstI dL_law_431 ?_
  refine v_iaddI dL_law_432 ?_
  refine v_sld rfl dL_law_433 (iI_in (by omega) (by omega) (by omega)) ?_
  refine v_aload_no dL_law_434 rfl ?_
  refine v_iload_n dL_law_435 rfl ?_
  refine v_iconstI dL_law_436 ?_
  refine v_iaddI dL_law_437 ?_
  refine v_sld rfl dL_law_438 (iI_in (by omega) (by omega) (by omega)) ?_
  refine v_callV dL_law_439 ml_L_35 hsp1 hf1 rfl (s_lt hn1 rfl) rfl rfl (Nat.le_of_ble_eq_true rfl) hdm (show k + 0 + 0 ≤ 600000 by omega) (show u + 0 + 0 ≤ 7302250 by omega) ⟨Or.inl (fun _ _ _ q => q.1), fun r n2 h2 q => ?_⟩
  obtain ⟨rfl, rfl, hI2⟩ := q
  dsimp only [s_push]
  refine v_icmp_same (tgt := 1724) dL_law_442 (by decide) ?_
  exact next _ _ _ _ hI2 (by omega) (by omega)
set_option maxRecDepth 10000 in
theorem law_case_5 {INV : Nat → (Nat → sE) → Prop} (hIn : ∀ n h, INV n h → 115 ≤ n ∧ ∃ fs, h 0 = .inr (11, fs)) (p5 : ∀ a1 a2 a3 : Int32, Pair m_X11_flag m_X12_flag 0 0 INV [.int a1, .int a2, .int a3]) {b L : Nat} {xs : Nat → Int32} (hL : L ≤ 3584) (j n k u : Nat) (h : Nat → sE) (hI : INV n h) (hj : 7 * (j : Int) + 7 ≤ L) (hk : k ≤ 115 + 3 * j) (hu : u ≤ 178400 + 900 * j) (next : ∀ (n k u : Nat) (h : Nat → sE), INV n h → k ≤ 115 + 3 * (j + 1) → u ≤ 178400 + 900 * (j + 1) → V (m_L, 2048, 600000, 7302250, 0, (fun r _ _ => r = some (.int (iI 1))), s_GL b L xs) k u n h 1724 [(3, .int (iI (7 * (j : Int)))), (2, .ref 77), (1, .ref 0), (0, .retAddr b)] []) : V (m_L, 2048, 600000, 7302250, 0, (fun r _ _ => r = some (.int (iI 1))), s_GL b L xs) k u n h 447 [(3, .int (iI (7 * (j : Int)))), (2, .ref 77), (1, .ref 0), (0, .retAddr b)] [] := by
  obtain ⟨hn, fs0, hf0⟩ := hIn n h hI
  obtain ⟨dx, dm, hdx, hdm, hsp⟩ := p5 (xs (iI (7 * (j : Int) + 1)).toNatClampNeg) (xs (iI (7 * (j : Int) + 2)).toNatClampNeg) (xs (iI (7 * (j : Int) + 3)).toNatClampNeg) n h hI
  refine v_aload_n dL_law_447 rfl ?_
  refine v_aload_no dL_law_448 rfl ?_
  refine v_iload_n dL_law_449 rfl ?_
  refine v_iconstI dL_law_450 ?_
  refine v_iaddI dL_law_451 ?_
  refine v_sld rfl dL_law_452 (iI_in (by omega) (by omega) (by omega)) ?_
  refine v_aload_no dL_law_453 rfl ?_
  refine v_iload_n dL_law_454 rfl ?_
  refine v_iconstI dL_law_455 ?_
  refine v_iaddI dL_law_456 ?_
  refine v_sld rfl dL_law_457 (iI_in (by omega) (by omega) (by omega)) ?_
  refine v_aload_no dL_law_458 rfl ?_
  refine v_iload_n dL_law_459 rfl ?_
  refine v_iconstI dL_law_460 ?_
  refine v_iaddI dL_law_461 ?_
  refine v_sld rfl dL_law_462 (iI_in (by omega) (by omega) (by omega)) ?_
  refine v_callV dL_law_463 ml_L_36 hsp hf0 rfl (s_lt hn rfl) rfl rfl (Nat.le_of_ble_eq_true rfl) hdx (show k + 0 ≤ 600000 by omega) (show u + 0 ≤ 7302250 by omega) ⟨Or.inr ⟨law_lvok hn, fun v hv => by cases hv⟩, fun r n1 h1 q => ?_⟩
  obtain ⟨v, rfl, ⟨hn1, fs1, hf1⟩, hsp1⟩ := q
  dsimp only [s_push]
  refine v_aload_n dL_law_466 rfl ?_
  refine v_aload_no dL_law_467 rfl ?_
  refine v_iload_n dL_law_468 rfl ?_
  refine v_iconstI dL_law_469 ?_
  refine v_iaddI dL_law_470 ?_
  refine v_sld rfl dL_law_471 (iI_in (by omega) (by omega) (by omega)) ?_
  refine v_aload_no dL_law_472 rfl ?_
  refine v_iload_n dL_law_473 rfl ?_
  refine v_iconstI dL_law_474 ?_
  refine v_iaddI dL_law_475 ?_
  refine v_sld rfl dL_law_476 (iI_in (by omega) (by omega) (by omega)) ?_
  refine v_aload_no dL_law_477 rfl ?_
  refine v_iload_n dL_law_478 rfl ?_
  refine v_iconstI dL_law_479 ?_
  refine v_iaddI dL_law_480 ?_
  refine v_sld rfl dL_law_481 (iI_in (by omega) (by omega) (by omega)) ?_
  refine v_callV dL_law_482 ml_L_39 hsp1 hf1 rfl (s_lt hn1 rfl) rfl rfl (Nat.le_of_ble_eq_true rfl) hdm (show k + 0 + 0 ≤ 600000 by omega) (show u + 0 + 0 ≤ 7302250 by omega) ⟨Or.inl (fun _ _ _ q => q.1), fun r n2 h2 q => ?_⟩
  obtain ⟨rfl, rfl, hI2⟩ := q
  dsimp only [s_push]
  refine v_icmp_same (tgt := 1724) dL_law_485 (by decide) ?_
  exact next _ _ _ _ hI2 (by omega) (by omega)
set_option maxRecDepth 10000 in
theorem law_case_6 {INV : Nat → (Nat → sE) → Prop} (hIn : ∀ n h, INV n h → 115 ≤ n ∧ ∃ fs, h 0 = .inr (11, fs)) (p6 : Pair m_X11_undo m_X12_undo 0 0 INV []) {b L : Nat} {xs : Nat → Int32} (hL : L ≤ 3584) (j n k u : Nat) (h : Nat → sE) (hI : INV n h) (hj : 7 * (j : Int) + 7 ≤ L) (hk : k ≤ 115 + 3 * j) (hu : u ≤ 178400 + 900 * j) (next : ∀ (n k u : Nat) (h : Nat → sE), INV n h → k ≤ 115 + 3 * (j + 1) → u ≤ 178400 + 900 * (j + 1) → V (m_L, 2048, 600000, 7302250, 0, (fun r _ _ => r = some (.int (iI 1))), s_GL b L xs) k u n h 1724 [(3, .int (iI (7 * (j : Int)))), (2, .ref 77), (1, .ref 0), (0, .retAddr b)] []) : V (m_L, 2048, 600000, 7302250, 0, (fun r _ _ => r = some (.int (iI 1))), s_GL b L xs) k u n h 490 [(3, .int (iI (7 * (j : Int)))), (2, .ref 77), (1, .ref 0), (0, .retAddr b)] [] := by
  obtain ⟨hn, fs0, hf0⟩ := hIn n h hI
  obtain ⟨dx, dm, hdx, hdm, hsp⟩ := p6 n h hI
  refine v_aload_n dL_law_490 rfl ?_
  refine v_callV dL_law_491 ml_L_40 hsp hf0 rfl (s_lt hn rfl) rfl rfl (Nat.le_of_ble_eq_true rfl) hdx (show k + 0 ≤ 600000 by omega) (show u + 0 ≤ 7302250 by omega) ⟨Or.inr ⟨law_lvok hn, fun v hv => by cases hv⟩, fun r n1 h1 q => ?_⟩
  obtain ⟨v, rfl, ⟨hn1, fs1, hf1⟩, hsp1⟩ := q
  dsimp only [s_push]
  refine v_aload_n dL_law_494 rfl ?_
  refine v_callV dL_law_495 ml_L_44 hsp1 hf1 rfl (s_lt hn1 rfl) rfl rfl (Nat.le_of_ble_eq_true rfl) hdm (show k + 0 + 0 ≤ 600000 by omega) (show u + 0 + 0 ≤ 7302250 by omega) ⟨Or.inl (fun _ _ _ q => q.1), fun r n2 h2 q => ?_⟩
  obtain ⟨rfl, rfl, hI2⟩ := q
  dsimp only [s_push]
  refine v_icmp_same (tgt := 1724) dL_law_498 (by decide) ?_
  exact next _ _ _ _ hI2 (by omega) (by omega)
set_option maxRecDepth 10000 in
theorem law_case_7 {INV : Nat → (Nat → sE) → Prop} (hIn : ∀ n h, INV n h → 115 ≤ n ∧ ∃ fs, h 0 = .inr (11, fs)) (p7 : ∀ a1 a2 a3 a4 a5 : Int32, Pair m_X11_contract m_X12_contract 0 0 INV [.int a1, .int a2, .int a3, .int a4, .int a5]) {b L : Nat} {xs : Nat → Int32} (hL : L ≤ 3584) (j n k u : Nat) (h : Nat → sE) (hI : INV n h) (hj : 7 * (j : Int) + 7 ≤ L) (hk : k ≤ 115 + 3 * j) (hu : u ≤ 178400 + 900 * j) (next : ∀ (n k u : Nat) (h : Nat → sE), INV n h → k ≤ 115 + 3 * (j + 1) → u ≤ 178400 + 900 * (j + 1) → V (m_L, 2048, 600000, 7302250, 0, (fun r _ _ => r = some (.int (iI 1))), s_GL b L xs) k u n h 1724 [(3, .int (iI (7 * (j : Int)))), (2, .ref 77), (1, .ref 0), (0, .retAddr b)] []) : V (m_L, 2048, 600000, 7302250, 0, (fun r _ _ => r = some (.int (iI 1))), s_GL b L xs) k u n h 503 [(3, .int (iI (7 * (j : Int)))), (2, .ref 77), (1, .ref 0), (0, .retAddr b)] [] := by
  obtain ⟨hn, fs0, hf0⟩ := hIn n h hI
  obtain ⟨dx, dm, hdx, hdm, hsp⟩ := p7 (xs (iI (7 * (j : Int) + 1)).toNatClampNeg) (xs (iI (7 * (j : Int) + 2)).toNatClampNeg) (xs (iI (7 * (j : Int) + 3)).toNatClampNeg) (xs (iI (7 * (j : Int) + 4)).toNatClampNeg) (xs (iI (7 * (j : Int) + 5)).toNatClampNeg) n h hI
  refine v_aload_n dL_law_503 rfl ?_
  refine v_aload_no dL_law_504 rfl ?_
  refine v_iload_n dL_law_505 rfl ?_
  refine v_iconstI dL_law_506 ?_
  refine v_iaddI dL_law_507 ?_
  refine v_sld rfl dL_law_508 (iI_in (by omega) (by omega) (by omega)) ?_
  refine v_aload_no dL_law_509 rfl ?_
  refine v_iload_n dL_law_510 rfl ?_
  refine v_iconstI dL_law_511 ?_
  refine v_iaddI dL_law_512 ?_
  refine v_sld rfl dL_law_513 (iI_in (by omega) (by omega) (by omega)) ?_
  refine v_aload_no dL_law_514 rfl ?_
  refine v_iload_n dL_law_515 rfl ?_
  refine v_iconstI dL_law_516 ?_
  refine v_iaddI dL_law_517 ?_
  refine v_sld rfl dL_law_518 (iI_in (by omega) (by omega) (by omega)) ?_
  refine v_aload_no dL_law_519 rfl ?_
  refine v_iload_n dL_law_520 rfl ?_
  refine v_iconstI dL_law_521 ?_
  refine v_iaddI dL_law_522 ?_
  refine v_sld rfl dL_law_523 (iI_in (by omega) (by omega) (by omega)) ?_
  refine v_aload_no dL_law_524 rfl ?_
  refine v_iload_n dL_law_525 rfl ?_
  refine v_iconstI dL_law_526 ?_
  refine v_iaddI dL_law_527 ?_
  refine v_sld rfl dL_law_528 (iI_in (by omega) (by omega) (by omega)) ?_
  refine v_callV dL_law_529 ml_L_45 hsp hf0 rfl (s_lt hn rfl) rfl rfl (Nat.le_of_ble_eq_true rfl) hdx (show k + 0 ≤ 600000 by omega) (show u + 0 ≤ 7302250 by omega) ⟨Or.inr ⟨law_lvok hn, fun v hv => by cases hv⟩, fun r n1 h1 q => ?_⟩
  obtain ⟨v, rfl, ⟨hn1, fs1, hf1⟩, hsp1⟩ := q
  dsimp only [s_push]
  refine v_aload_n dL_law_532 rfl ?_
  refine v_aload_no dL_law_533 rfl ?_
  refine v_iload_n dL_law_534 rfl ?_
  refine v_iconstI dL_law_535 ?_
  refine v_iaddI dL_law_536 ?_
  refine v_sld rfl dL_law_537 (iI_in (by omega) (by omega) (by omega)) ?_
  refine v_aload_no dL_law_538 rfl ?_
  refine v_iload_n dL_law_539 rfl ?_
  refine v_iconstI dL_law_540 ?_
  refine v_iaddI dL_law_541 ?_
  refine v_sld rfl dL_law_542 (iI_in (by omega) (by omega) (by omega)) ?_
  refine v_aload_no dL_law_543 rfl ?_
  refine v_iload_n dL_law_544 rfl ?_
  refine v_iconstI dL_law_545 ?_
  refine v_iaddI dL_law_546 ?_
  refine v_sld rfl dL_law_547 (iI_in (by omega) (by omega) (by omega)) ?_
  refine v_aload_no dL_law_548 rfl ?_
  refine v_iload_n dL_law_549 rfl ?_
  refine v_iconstI dL_law_550 ?_
  refine v_iaddI dL_law_551 ?_
  refine v_sld rfl dL_law_552 (iI_in (by omega) (by omega) (by omega)) ?_
  refine v_aload_no dL_law_553 rfl ?_
  refine v_iload_n dL_law_554 rfl ?_
  refine v_iconstI dL_law_555 ?_
  refine v_iaddI dL_law_556 ?_
  refine v_sld rfl dL_law_557 (iI_in (by omega) (by omega) (by omega)) ?_
  refine v_callV dL_law_558 ml_L_48 hsp1 hf1 rfl (s_lt hn1 rfl) rfl rfl (Nat.le_of_ble_eq_true rfl) hdm (show k + 0 + 0 ≤ 600000 by omega) (show u + 0 + 0 ≤ 7302250 by omega) ⟨Or.inl (fun _ _ _ q => q.1), fun r n2 h2 q => ?_⟩
  obtain ⟨rfl, rfl, hI2⟩ := q
  dsimp only [s_push]
  refine v_icmp_same (tgt := 1724) dL_law_561 (by decide) ?_
  exact next _ _ _ _ hI2 (by omega) (by omega)
set_option maxRecDepth 10000 in
theorem law_case_8 {INV : Nat → (Nat → sE) → Prop} (hIn : ∀ n h, INV n h → 115 ≤ n ∧ ∃ fs, h 0 = .inr (11, fs)) (p8 : Pair m_X11_cancel m_X12_cancel 0 0 INV []) {b L : Nat} {xs : Nat → Int32} (hL : L ≤ 3584) (j n k u : Nat) (h : Nat → sE) (hI : INV n h) (hj : 7 * (j : Int) + 7 ≤ L) (hk : k ≤ 115 + 3 * j) (hu : u ≤ 178400 + 900 * j) (next : ∀ (n k u : Nat) (h : Nat → sE), INV n h → k ≤ 115 + 3 * (j + 1) → u ≤ 178400 + 900 * (j + 1) → V (m_L, 2048, 600000, 7302250, 0, (fun r _ _ => r = some (.int (iI 1))), s_GL b L xs) k u n h 1724 [(3, .int (iI (7 * (j : Int)))), (2, .ref 77), (1, .ref 0), (0, .retAddr b)] []) : V (m_L, 2048, 600000, 7302250, 0, (fun r _ _ => r = some (.int (iI 1))), s_GL b L xs) k u n h 566 [(3, .int (iI (7 * (j : Int)))), (2, .ref 77), (1, .ref 0), (0, .retAddr b)] [] := by
  obtain ⟨hn, fs0, hf0⟩ := hIn n h hI
  obtain ⟨dx, dm, hdx, hdm, hsp⟩ := p8 n h hI
  refine v_aload_n dL_law_566 rfl ?_
  refine v_callV dL_law_567 ml_L_49 hsp hf0 rfl (s_lt hn rfl) rfl rfl (Nat.le_of_ble_eq_true rfl) hdx (show k + 0 ≤ 600000 by omega) (show u + 0 ≤ 7302250 by omega) ⟨Or.inr ⟨law_lvok hn, fun v hv => by cases hv⟩, fun r n1 h1 q => ?_⟩
  obtain ⟨v, rfl, ⟨hn1, fs1, hf1⟩, hsp1⟩ := q
  dsimp only [s_push]
  refine v_aload_n dL_law_570 rfl ?_
  refine v_callV dL_law_571 ml_L_52 hsp1 hf1 rfl (s_lt hn1 rfl) rfl rfl (Nat.le_of_ble_eq_true rfl) hdm (show k + 0 + 0 ≤ 600000 by omega) (show u + 0 + 0 ≤ 7302250 by omega) ⟨Or.inl (fun _ _ _ q => q.1), fun r n2 h2 q => ?_⟩
  obtain ⟨rfl, rfl, hI2⟩ := q
  dsimp only [s_push]
  refine v_icmp_same (tgt := 1724) dL_law_574 (by decide) ?_
  exact next _ _ _ _ hI2 (by omega) (by omega)
set_option maxRecDepth 10000 in
theorem law_case_9 {INV : Nat → (Nat → sE) → Prop} (hIn : ∀ n h, INV n h → 115 ≤ n ∧ ∃ fs, h 0 = .inr (11, fs)) (p9 : ∀ a1 a2 : Int32, Pair m_X11_terms m_X12_terms 0 0 INV [.int a1, .int a2]) {b L : Nat} {xs : Nat → Int32} (hL : L ≤ 3584) (j n k u : Nat) (h : Nat → sE) (hI : INV n h) (hj : 7 * (j : Int) + 7 ≤ L) (hk : k ≤ 115 + 3 * j) (hu : u ≤ 178400 + 900 * j) (next : ∀ (n k u : Nat) (h : Nat → sE), INV n h → k ≤ 115 + 3 * (j + 1) → u ≤ 178400 + 900 * (j + 1) → V (m_L, 2048, 600000, 7302250, 0, (fun r _ _ => r = some (.int (iI 1))), s_GL b L xs) k u n h 1724 [(3, .int (iI (7 * (j : Int)))), (2, .ref 77), (1, .ref 0), (0, .retAddr b)] []) : V (m_L, 2048, 600000, 7302250, 0, (fun r _ _ => r = some (.int (iI 1))), s_GL b L xs) k u n h 579 [(3, .int (iI (7 * (j : Int)))), (2, .ref 77), (1, .ref 0), (0, .retAddr b)] [] := by
  obtain ⟨hn, fs0, hf0⟩ := hIn n h hI
  obtain ⟨dx, dm, hdx, hdm, hsp⟩ := p9 (xs (iI (7 * (j : Int) + 1)).toNatClampNeg) (xs (iI (7 * (j : Int) + 2)).toNatClampNeg) n h hI
  refine v_aload_n dL_law_579 rfl ?_
  refine v_aload_no dL_law_580 rfl ?_
  refine v_iload_n dL_law_581 rfl ?_
  refine v_iconstI dL_law_582 ?_
  refine v_iaddI dL_law_583 ?_
  refine v_sld rfl dL_law_584 (iI_in (by omega) (by omega) (by omega)) ?_
  refine v_aload_no dL_law_585 rfl ?_
  refine v_iload_n dL_law_586 rfl ?_
  refine v_iconstI dL_law_587 ?_
  refine v_iaddI dL_law_588 ?_
  refine v_sld rfl dL_law_589 (iI_in (by omega) (by omega) (by omega)) ?_
  refine v_callV dL_law_590 ml_L_53 hsp hf0 rfl (s_lt hn rfl) rfl rfl (Nat.le_of_ble_eq_true rfl) hdx (show k + 0 ≤ 600000 by omega) (show u + 0 ≤ 7302250 by omega) ⟨Or.inr ⟨law_lvok hn, fun v hv => by cases hv⟩, fun r n1 h1 q => ?_⟩
  obtain ⟨v, rfl, ⟨hn1, fs1, hf1⟩, hsp1⟩ := q
  dsimp only [s_push]
  refine v_aload_n dL_law_593 rfl ?_
  refine v_aload_no dL_law_594 rfl ?_
  refine v_iload_n dL_law_595 rfl ?_
  refine v_iconstI dL_law_596 ?_
  refine v_iaddI dL_law_597 ?_
  refine v_sld rfl dL_law_598 (iI_in (by omega) (by omega) (by omega)) ?_
  refine v_aload_no dL_law_599 rfl ?_
  refine v_iload_n dL_law_600 rfl ?_
  refine v_iconstI dL_law_601 ?_
  refine v_iaddI dL_law_602 ?_
  refine v_sld rfl dL_law_603 (iI_in (by omega) (by omega) (by omega)) ?_
  refine v_callV dL_law_604 ml_L_56 hsp1 hf1 rfl (s_lt hn1 rfl) rfl rfl (Nat.le_of_ble_eq_true rfl) hdm (show k + 0 + 0 ≤ 600000 by omega) (show u + 0 + 0 ≤ 7302250 by omega) ⟨Or.inl (fun _ _ _ q => q.1), fun r n2 h2 q => ?_⟩
  obtain ⟨rfl, rfl, hI2⟩ := q
  dsimp only [s_push]
  refine v_icmp_same (tgt := 1724) dL_law_607 (by decide) ?_
  exact next _ _ _ _ hI2 (by omega) (by omega)
set_option maxRecDepth 10000 in
theorem law_case_10 {INV : Nat → (Nat → sE) → Prop} (hIn : ∀ n h, INV n h → 115 ≤ n ∧ ∃ fs, h 0 = .inr (11, fs)) (p10 : ∀ a1 a2 a3 a4 a5 : Int32, Pair m_X11_feed m_X12_feed 0 0 INV [.int a1, .int a2, .int a3, .int a4, .int a5]) {b L : Nat} {xs : Nat → Int32} (hL : L ≤ 3584) (j n k u : Nat) (h : Nat → sE) (hI : INV n h) (hj : 7 * (j : Int) + 7 ≤ L) (hk : k ≤ 115 + 3 * j) (hu : u ≤ 178400 + 900 * j) (next : ∀ (n k u : Nat) (h : Nat → sE), INV n h → k ≤ 115 + 3 * (j + 1) → u ≤ 178400 + 900 * (j + 1) → V (m_L, 2048, 600000, 7302250, 0, (fun r _ _ => r = some (.int (iI 1))), s_GL b L xs) k u n h 1724 [(3, .int (iI (7 * (j : Int)))), (2, .ref 77), (1, .ref 0), (0, .retAddr b)] []) : V (m_L, 2048, 600000, 7302250, 0, (fun r _ _ => r = some (.int (iI 1))), s_GL b L xs) k u n h 612 [(3, .int (iI (7 * (j : Int)))), (2, .ref 77), (1, .ref 0), (0, .retAddr b)] [] := by
  obtain ⟨hn, fs0, hf0⟩ := hIn n h hI
  obtain ⟨dx, dm, hdx, hdm, hsp⟩ := p10 (xs (iI (7 * (j : Int) + 1)).toNatClampNeg) (xs (iI (7 * (j : Int) + 2)).toNatClampNeg) (xs (iI (7 * (j : Int) + 3)).toNatClampNeg) (xs (iI (7 * (j : Int) + 4)).toNatClampNeg) (xs (iI (7 * (j : Int) + 5)).toNatClampNeg) n h hI
  refine v_aload_n dL_law_612 rfl ?_
  refine v_aload_no dL_law_613 rfl ?_
  refine v_iload_n dL_law_614 rfl ?_
  refine v_iconstI dL_law_615 ?_
  refine v_iaddI dL_law_616 ?_
  refine v_sld rfl dL_law_617 (iI_in (by omega) (by omega) (by omega)) ?_
  refine v_aload_no dL_law_618 rfl ?_
  refine v_iload_n dL_law_619 rfl ?_
  refine v_iconstI dL_law_620 ?_
  refine v_iaddI dL_law_621 ?_
  refine v_sld rfl dL_law_622 (iI_in (by omega) (by omega) (by omega)) ?_
  refine v_aload_no dL_law_623 rfl ?_
  refine v_iload_n dL_law_624 rfl ?_
  refine v_iconstI dL_law_625 ?_
  refine v_iaddI dL_law_626 ?_
  refine v_sld rfl dL_law_627 (iI_in (by omega) (by omega) (by omega)) ?_
  refine v_aload_no dL_law_628 rfl ?_
  refine v_iload_n dL_law_629 rfl ?_
  refine v_iconstI dL_law_630 ?_
  refine v_iaddI dL_law_631 ?_
  refine v_sld rfl dL_law_632 (iI_in (by omega) (by omega) (by omega)) ?_
  refine v_aload_no dL_law_633 rfl ?_
  refine v_iload_n dL_law_634 rfl ?_
  refine v_iconstI dL_law_635 ?_
  refine v_iaddI dL_law_636 ?_
  refine v_sld rfl dL_law_637 (iI_in (by omega) (by omega) (by omega)) ?_
  refine v_callV dL_law_638 ml_L_57 hsp hf0 rfl (s_lt hn rfl) rfl rfl (Nat.le_of_ble_eq_true rfl) hdx (show k + 0 ≤ 600000 by omega) (show u + 0 ≤ 7302250 by omega) ⟨Or.inr ⟨law_lvok hn, fun v hv => by cases hv⟩, fun r n1 h1 q => ?_⟩
  obtain ⟨v, rfl, ⟨hn1, fs1, hf1⟩, hsp1⟩ := q
  dsimp only [s_push]
  refine v_aload_n dL_law_641 rfl ?_
  refine v_aload_no dL_law_642 rfl ?_
  refine v_iload_n dL_law_643 rfl ?_
  refine v_iconstI dL_law_644 ?_
  refine v_iaddI dL_law_645 ?_
  refine v_sld rfl dL_law_646 (iI_in (by omega) (by omega) (by omega)) ?_
  refine v_aload_no dL_law_647 rfl ?_
  refine v_iload_n dL_law_648 rfl ?_
  refine v_iconstI dL_law_649 ?_
  refine v_iaddI dL_law_650 ?_
  refine v_sld rfl dL_law_651 (iI_in (by omega) (by omega) (by omega)) ?_
  refine v_aload_no dL_law_652 rfl ?_
  refine v_iload_n dL_law_653 rfl ?_
  refine v_iconstI dL_law_654 ?_
  refine v_iaddI dL_law_655 ?_
  refine v_sld rfl dL_law_656 (iI_in (by omega) (by omega) (by omega)) ?_
  refine v_aload_no dL_law_657 rfl ?_
  refine v_iload_n dL_law_658 rfl ?_
  refine v_iconstI dL_law_659 ?_
  refine v_iaddI dL_law_660 ?_
  refine v_sld rfl dL_law_661 (iI_in (by omega) (by omega) (by omega)) ?_
  refine v_aload_no dL_law_662 rfl ?_
  refine v_iload_n dL_law_663 rfl ?_
  refine v_iconstI dL_law_664 ?_
  refine v_iaddI dL_law_665 ?_
  refine v_sld rfl dL_law_666 (iI_in (by omega) (by omega) (by omega)) ?_
  refine v_callV dL_law_667 ml_L_60 hsp1 hf1 rfl (s_lt hn1 rfl) rfl rfl (Nat.le_of_ble_eq_true rfl) hdm (show k + 0 + 0 ≤ 600000 by omega) (show u + 0 + 0 ≤ 7302250 by omega) ⟨Or.inl (fun _ _ _ q => q.1), fun r n2 h2 q => ?_⟩
  obtain ⟨rfl, rfl, hI2⟩ := q
  dsimp only [s_push]
  refine v_icmp_same (tgt := 1724) dL_law_670 (by decide) ?_
  exact next _ _ _ _ hI2 (by omega) (by omega)
set_option maxRecDepth 10000 in
theorem law_case_11 {INV : Nat → (Nat → sE) → Prop} (hIn : ∀ n h, INV n h → 115 ≤ n ∧ ∃ fs, h 0 = .inr (11, fs)) (p11 : ∀ a1 : Int32, Pair m_X11_end m_X12_end 0 0 INV [.int a1]) {b L : Nat} {xs : Nat → Int32} (hL : L ≤ 3584) (j n k u : Nat) (h : Nat → sE) (hI : INV n h) (hj : 7 * (j : Int) + 7 ≤ L) (hk : k ≤ 115 + 3 * j) (hu : u ≤ 178400 + 900 * j) (next : ∀ (n k u : Nat) (h : Nat → sE), INV n h → k ≤ 115 + 3 * (j + 1) → u ≤ 178400 + 900 * (j + 1) → V (m_L, 2048, 600000, 7302250, 0, (fun r _ _ => r = some (.int (iI 1))), s_GL b L xs) k u n h 1724 [(3, .int (iI (7 * (j : Int)))), (2, .ref 77), (1, .ref 0), (0, .retAddr b)] []) : V (m_L, 2048, 600000, 7302250, 0, (fun r _ _ => r = some (.int (iI 1))), s_GL b L xs) k u n h 675 [(3, .int (iI (7 * (j : Int)))), (2, .ref 77), (1, .ref 0), (0, .retAddr b)] [] := by
  obtain ⟨hn, fs0, hf0⟩ := hIn n h hI
  obtain ⟨dx, dm, hdx, hdm, hsp⟩ := p11 (xs (iI (7 * (j : Int) + 1)).toNatClampNeg) n h hI
  refine v_aload_n dL_law_675 rfl ?_
  refine v_aload_no dL_law_676 rfl ?_
  refine v_iload_n dL_law_677 rfl ?_
  refine v_iconstI dL_law_678 ?_
  refine v_iaddI dL_law_679 ?_
  refine v_sld rfl dL_law_680 (iI_in (by omega) (by omega) (by omega)) ?_
  refine v_callV dL_law_681 ml_L_61 hsp hf0 rfl (s_lt hn rfl) rfl rfl (Nat.le_of_ble_eq_true rfl) hdx (show k + 0 ≤ 600000 by omega) (show u + 0 ≤ 7302250 by omega) ⟨Or.inr ⟨law_lvok hn, fun v hv => by cases hv⟩, fun r n1 h1 q => ?_⟩
  obtain ⟨v, rfl, ⟨hn1, fs1, hf1⟩, hsp1⟩ := q
  dsimp only [s_push]
  refine v_aload_n dL_law_684 rfl ?_
  refine v_aload_no dL_law_685 rfl ?_
  refine v_iload_n dL_law_686 rfl ?_
  refine v_iconstI dL_law_687 ?_
  refine v_iaddI dL_law_688 ?_
  refine v_sld rfl dL_law_689 (iI_in (by omega) (by omega) (by omega)) ?_
  refine v_callV dL_law_690 ml_L_65 hsp1 hf1 rfl (s_lt hn1 rfl) rfl rfl (Nat.le_of_ble_eq_true rfl) hdm (show k + 0 + 0 ≤ 600000 by omega) (show u + 0 + 0 ≤ 7302250 by omega) ⟨Or.inl (fun _ _ _ q => q.1), fun r n2 h2 q => ?_⟩
  obtain ⟨rfl, rfl, hI2⟩ := q
  dsimp only [s_push]
  refine v_icmp_same (tgt := 1724) dL_law_693 (by decide) ?_
  exact next _ _ _ _ hI2 (by omega) (by omega)
set_option maxRecDepth 10000 in
theorem law_case_12 {INV : Nat → (Nat → sE) → Prop} (hIn : ∀ n h, INV n h → 115 ≤ n ∧ ∃ fs, h 0 = .inr (11, fs)) (p12 : Pair m_X11_row m_X12_row 0 0 INV []) {b L : Nat} {xs : Nat → Int32} (hL : L ≤ 3584) (j n k u : Nat) (h : Nat → sE) (hI : INV n h) (hj : 7 * (j : Int) + 7 ≤ L) (hk : k ≤ 115 + 3 * j) (hu : u ≤ 178400 + 900 * j) (next : ∀ (n k u : Nat) (h : Nat → sE), INV n h → k ≤ 115 + 3 * (j + 1) → u ≤ 178400 + 900 * (j + 1) → V (m_L, 2048, 600000, 7302250, 0, (fun r _ _ => r = some (.int (iI 1))), s_GL b L xs) k u n h 1724 [(3, .int (iI (7 * (j : Int)))), (2, .ref 77), (1, .ref 0), (0, .retAddr b)] []) : V (m_L, 2048, 600000, 7302250, 0, (fun r _ _ => r = some (.int (iI 1))), s_GL b L xs) k u n h 698 [(3, .int (iI (7 * (j : Int)))), (2, .ref 77), (1, .ref 0), (0, .retAddr b)] [] := by
  obtain ⟨hn, fs0, hf0⟩ := hIn n h hI
  obtain ⟨dx, dm, hdx, hdm, hsp⟩ := p12 n h hI
  refine v_aload_n dL_law_698 rfl ?_
  refine v_callV dL_law_699 ml_L_66 hsp hf0 rfl (s_lt hn rfl) rfl rfl (Nat.le_of_ble_eq_true rfl) hdx (show k + 0 ≤ 600000 by omega) (show u + 0 ≤ 7302250 by omega) ⟨Or.inr ⟨law_lvok hn, fun v hv => by cases hv⟩, fun r n1 h1 q => ?_⟩
  obtain ⟨v, rfl, ⟨hn1, fs1, hf1⟩, hsp1⟩ := q
  dsimp only [s_push]
  refine v_aload_n dL_law_702 rfl ?_
  refine v_callV dL_law_703 ml_L_69 hsp1 hf1 rfl (s_lt hn1 rfl) rfl rfl (Nat.le_of_ble_eq_true rfl) hdm (show k + 0 + 0 ≤ 600000 by omega) (show u + 0 + 0 ≤ 7302250 by omega) ⟨Or.inl (fun _ _ _ q => q.1), fun r n2 h2 q => ?_⟩
  obtain ⟨rfl, rfl, hI2⟩ := q
  dsimp only [s_push]
  refine v_icmp_same (tgt := 1724) dL_law_706 (by decide) ?_
  exact next _ _ _ _ hI2 (by omega) (by omega)
set_option maxRecDepth 10000 in
theorem law_case_13 {INV : Nat → (Nat → sE) → Prop} (hIn : ∀ n h, INV n h → 115 ≤ n ∧ ∃ fs, h 0 = .inr (11, fs)) (p13 : Pair m_X11_haze m_X12_haze 0 0 INV []) {b L : Nat} {xs : Nat → Int32} (hL : L ≤ 3584) (j n k u : Nat) (h : Nat → sE) (hI : INV n h) (hj : 7 * (j : Int) + 7 ≤ L) (hk : k ≤ 115 + 3 * j) (hu : u ≤ 178400 + 900 * j) (next : ∀ (n k u : Nat) (h : Nat → sE), INV n h → k ≤ 115 + 3 * (j + 1) → u ≤ 178400 + 900 * (j + 1) → V (m_L, 2048, 600000, 7302250, 0, (fun r _ _ => r = some (.int (iI 1))), s_GL b L xs) k u n h 1724 [(3, .int (iI (7 * (j : Int)))), (2, .ref 77), (1, .ref 0), (0, .retAddr b)] []) : V (m_L, 2048, 600000, 7302250, 0, (fun r _ _ => r = some (.int (iI 1))), s_GL b L xs) k u n h 711 [(3, .int (iI (7 * (j : Int)))), (2, .ref 77), (1, .ref 0), (0, .retAddr b)] [] := by
  obtain ⟨hn, fs0, hf0⟩ := hIn n h hI
  obtain ⟨dx, dm, hdx, hdm, hsp⟩ := p13 n h hI
  refine v_aload_n dL_law_711 rfl ?_
  refine v_callV dL_law_712 ml_L_70 hsp hf0 rfl (s_lt hn rfl) rfl rfl (Nat.le_of_ble_eq_true rfl) hdx (show k + 0 ≤ 600000 by omega) (show u + 0 ≤ 7302250 by omega) ⟨Or.inr ⟨law_lvok hn, fun v hv => by cases hv⟩, fun r n1 h1 q => ?_⟩
  obtain ⟨v, rfl, ⟨hn1, fs1, hf1⟩, hsp1⟩ := q
  dsimp only [s_push]
  refine v_aload_n dL_law_715 rfl ?_
  refine v_callV dL_law_716 ml_L_73 hsp1 hf1 rfl (s_lt hn1 rfl) rfl rfl (Nat.le_of_ble_eq_true rfl) hdm (show k + 0 + 0 ≤ 600000 by omega) (show u + 0 + 0 ≤ 7302250 by omega) ⟨Or.inl (fun _ _ _ q => q.1), fun r n2 h2 q => ?_⟩
  obtain ⟨rfl, rfl, hI2⟩ := q
  dsimp only [s_push]
  refine v_icmp_same (tgt := 1724) dL_law_719 (by decide) ?_
  exact next _ _ _ _ hI2 (by omega) (by omega)
set_option maxRecDepth 10000 in
theorem law_case_14 {INV : Nat → (Nat → sE) → Prop} (hIn : ∀ n h, INV n h → 115 ≤ n ∧ ∃ fs, h 0 = .inr (11, fs)) (p14 : Pair m_X11_law m_X12_law 3 900 INV []) {b L : Nat} {xs : Nat → Int32} (hL : L ≤ 3584) (j n k u : Nat) (h : Nat → sE) (hI : INV n h) (hj : 7 * (j : Int) + 7 ≤ L) (hk : k ≤ 115 + 3 * j) (hu : u ≤ 178400 + 900 * j) (next : ∀ (n k u : Nat) (h : Nat → sE), INV n h → k ≤ 115 + 3 * (j + 1) → u ≤ 178400 + 900 * (j + 1) → V (m_L, 2048, 600000, 7302250, 0, (fun r _ _ => r = some (.int (iI 1))), s_GL b L xs) k u n h 1724 [(3, .int (iI (7 * (j : Int)))), (2, .ref 77), (1, .ref 0), (0, .retAddr b)] []) : V (m_L, 2048, 600000, 7302250, 0, (fun r _ _ => r = some (.int (iI 1))), s_GL b L xs) k u n h 724 [(3, .int (iI (7 * (j : Int)))), (2, .ref 77), (1, .ref 0), (0, .retAddr b)] [] := by
  obtain ⟨hn, fs0, hf0⟩ := hIn n h hI
  obtain ⟨dx, dm, hdx, hdm, hsp⟩ := p14 n h hI
  refine v_aload_n dL_law_724 rfl ?_
  refine v_callV dL_law_725 ml_L_74 hsp hf0 rfl (s_lt hn rfl) rfl rfl (Nat.le_of_ble_eq_true rfl) hdx (show k + 3 ≤ 600000 by omega) (show u + 900 ≤ 7302250 by omega) ⟨Or.inr ⟨law_lvok hn, fun v hv => by cases hv⟩, fun r n1 h1 q => ?_⟩
  obtain ⟨v, rfl, ⟨hn1, fs1, hf1⟩, hsp1⟩ := q
  dsimp only [s_push]
  refine v_aload_n dL_law_728 rfl ?_
  refine v_callV dL_law_729 ml_L_77 hsp1 hf1 rfl (s_lt hn1 rfl) rfl rfl (Nat.le_of_ble_eq_true rfl) hdm (show k + 3 + 0 ≤ 600000 by omega) (show u + 900 + 0 ≤ 7302250 by omega) ⟨Or.inl (fun _ _ _ q => q.1), fun r n2 h2 q => ?_⟩
  obtain ⟨rfl, rfl, hI2⟩ := q
  dsimp only [s_push]
  refine v_icmp_same (tgt := 1724) dL_law_732 (by decide) ?_
  exact next _ _ _ _ hI2 (by omega) (by omega)
set_option maxRecDepth 10000 in
theorem law_case_15 {INV : Nat → (Nat → sE) → Prop} (hIn : ∀ n h, INV n h → 115 ≤ n ∧ ∃ fs, h 0 = .inr (11, fs)) (p15 : Pair m_X11_drives m_X12_drives 0 0 INV []) {b L : Nat} {xs : Nat → Int32} (hL : L ≤ 3584) (j n k u : Nat) (h : Nat → sE) (hI : INV n h) (hj : 7 * (j : Int) + 7 ≤ L) (hk : k ≤ 115 + 3 * j) (hu : u ≤ 178400 + 900 * j) (next : ∀ (n k u : Nat) (h : Nat → sE), INV n h → k ≤ 115 + 3 * (j + 1) → u ≤ 178400 + 900 * (j + 1) → V (m_L, 2048, 600000, 7302250, 0, (fun r _ _ => r = some (.int (iI 1))), s_GL b L xs) k u n h 1724 [(3, .int (iI (7 * (j : Int)))), (2, .ref 77), (1, .ref 0), (0, .retAddr b)] []) : V (m_L, 2048, 600000, 7302250, 0, (fun r _ _ => r = some (.int (iI 1))), s_GL b L xs) k u n h 737 [(3, .int (iI (7 * (j : Int)))), (2, .ref 77), (1, .ref 0), (0, .retAddr b)] [] := by
  obtain ⟨hn, fs0, hf0⟩ := hIn n h hI
  obtain ⟨dx, dm, hdx, hdm, hsp⟩ := p15 n h hI
  refine v_aload_n dL_law_737 rfl ?_
  refine v_callV dL_law_738 ml_L_78 hsp hf0 rfl (s_lt hn rfl) rfl rfl (Nat.le_of_ble_eq_true rfl) hdx (show k + 0 ≤ 600000 by omega) (show u + 0 ≤ 7302250 by omega) ⟨Or.inr ⟨law_lvok hn, fun v hv => by cases hv⟩, fun r n1 h1 q => ?_⟩
  obtain ⟨v, rfl, ⟨hn1, fs1, hf1⟩, hsp1⟩ := q
  dsimp only [s_push]
  refine v_aload_n dL_law_741 rfl ?_
  refine v_callV dL_law_742 ml_L_81 hsp1 hf1 rfl (s_lt hn1 rfl) rfl rfl (Nat.le_of_ble_eq_true rfl) hdm (show k + 0 + 0 ≤ 600000 by omega) (show u + 0 + 0 ≤ 7302250 by omega) ⟨Or.inl (fun _ _ _ q => q.1), fun r n2 h2 q => ?_⟩
  obtain ⟨rfl, rfl, hI2⟩ := q
  dsimp only [s_push]
  refine v_icmp_same (tgt := 1724) dL_law_745 (by decide) ?_
  exact next _ _ _ _ hI2 (by omega) (by omega)
set_option maxRecDepth 10000 in
theorem law_case_16 {INV : Nat → (Nat → sE) → Prop} (hIn : ∀ n h, INV n h → 115 ≤ n ∧ ∃ fs, h 0 = .inr (11, fs)) (p16 : Pair m_X11_fault m_X12_fault 0 0 INV []) {b L : Nat} {xs : Nat → Int32} (hL : L ≤ 3584) (j n k u : Nat) (h : Nat → sE) (hI : INV n h) (hj : 7 * (j : Int) + 7 ≤ L) (hk : k ≤ 115 + 3 * j) (hu : u ≤ 178400 + 900 * j) (next : ∀ (n k u : Nat) (h : Nat → sE), INV n h → k ≤ 115 + 3 * (j + 1) → u ≤ 178400 + 900 * (j + 1) → V (m_L, 2048, 600000, 7302250, 0, (fun r _ _ => r = some (.int (iI 1))), s_GL b L xs) k u n h 1724 [(3, .int (iI (7 * (j : Int)))), (2, .ref 77), (1, .ref 0), (0, .retAddr b)] []) : V (m_L, 2048, 600000, 7302250, 0, (fun r _ _ => r = some (.int (iI 1))), s_GL b L xs) k u n h 750 [(3, .int (iI (7 * (j : Int)))), (2, .ref 77), (1, .ref 0), (0, .retAddr b)] [] := by
  obtain ⟨hn, fs0, hf0⟩ := hIn n h hI
  obtain ⟨dx, dm, hdx, hdm, hsp⟩ := p16 n h hI
  refine v_aload_n dL_law_750 rfl ?_
  refine v_callV dL_law_751 ml_L_82 hsp hf0 rfl (s_lt hn rfl) rfl rfl (Nat.le_of_ble_eq_true rfl) hdx (show k + 0 ≤ 600000 by omega) (show u + 0 ≤ 7302250 by omega) ⟨Or.inr ⟨law_lvok hn, fun v hv => by cases hv⟩, fun r n1 h1 q => ?_⟩
  obtain ⟨v, rfl, ⟨hn1, fs1, hf1⟩, hsp1⟩ := q
  dsimp only [s_push]
  refine v_aload_n dL_law_754 rfl ?_
  refine v_callV dL_law_755 ml_L_85 hsp1 hf1 rfl (s_lt hn1 rfl) rfl rfl (Nat.le_of_ble_eq_true rfl) hdm (show k + 0 + 0 ≤ 600000 by omega) (show u + 0 + 0 ≤ 7302250 by omega) ⟨Or.inl (fun _ _ _ q => q.1), fun r n2 h2 q => ?_⟩
  obtain ⟨rfl, rfl, hI2⟩ := q
  dsimp only [s_push]
  refine v_icmp_same (tgt := 1724) dL_law_758 (by decide) ?_
  exact next _ _ _ _ hI2 (by omega) (by omega)
set_option maxRecDepth 10000 in
theorem law_case_17 {INV : Nat → (Nat → sE) → Prop} (hIn : ∀ n h, INV n h → 115 ≤ n ∧ ∃ fs, h 0 = .inr (11, fs)) (p17 : Pair m_X11_stopped m_X12_stopped 0 0 INV []) {b L : Nat} {xs : Nat → Int32} (hL : L ≤ 3584) (j n k u : Nat) (h : Nat → sE) (hI : INV n h) (hj : 7 * (j : Int) + 7 ≤ L) (hk : k ≤ 115 + 3 * j) (hu : u ≤ 178400 + 900 * j) (next : ∀ (n k u : Nat) (h : Nat → sE), INV n h → k ≤ 115 + 3 * (j + 1) → u ≤ 178400 + 900 * (j + 1) → V (m_L, 2048, 600000, 7302250, 0, (fun r _ _ => r = some (.int (iI 1))), s_GL b L xs) k u n h 1724 [(3, .int (iI (7 * (j : Int)))), (2, .ref 77), (1, .ref 0), (0, .retAddr b)] []) : V (m_L, 2048, 600000, 7302250, 0, (fun r _ _ => r = some (.int (iI 1))), s_GL b L xs) k u n h 763 [(3, .int (iI (7 * (j : Int)))), (2, .ref 77), (1, .ref 0), (0, .retAddr b)] [] := by
  obtain ⟨hn, fs0, hf0⟩ := hIn n h hI
  obtain ⟨dx, dm, hdx, hdm, hsp⟩ := p17 n h hI
  refine v_aload_n dL_law_763 rfl ?_
  refine v_callV dL_law_764 ml_L_86 hsp hf0 rfl (s_lt hn rfl) rfl rfl (Nat.le_of_ble_eq_true rfl) hdx (show k + 0 ≤ 600000 by omega) (show u + 0 ≤ 7302250 by omega) ⟨Or.inr ⟨law_lvok hn, fun v hv => by cases hv⟩, fun r n1 h1 q => ?_⟩
  obtain ⟨v, rfl, ⟨hn1, fs1, hf1⟩, hsp1⟩ := q
  dsimp only [s_push]
  refine v_aload_n dL_law_767 rfl ?_
  refine v_callV dL_law_768 ml_L_89 hsp1 hf1 rfl (s_lt hn1 rfl) rfl rfl (Nat.le_of_ble_eq_true rfl) hdm (show k + 0 + 0 ≤ 600000 by omega) (show u + 0 + 0 ≤ 7302250 by omega) ⟨Or.inl (fun _ _ _ q => q.1), fun r n2 h2 q => ?_⟩
  obtain ⟨rfl, rfl, hI2⟩ := q
  dsimp only [s_push]
  refine v_icmp_same (tgt := 1724) dL_law_771 (by decide) ?_
  exact next _ _ _ _ hI2 (by omega) (by omega)
set_option maxRecDepth 10000 in
theorem law_case_18 {INV : Nat → (Nat → sE) → Prop} (hIn : ∀ n h, INV n h → 115 ≤ n ∧ ∃ fs, h 0 = .inr (11, fs)) (p18 : ∀ a1 : Int32, Pair m_X11_force m_X12_force 0 0 INV [.int a1]) {b L : Nat} {xs : Nat → Int32} (hL : L ≤ 3584) (j n k u : Nat) (h : Nat → sE) (hI : INV n h) (hj : 7 * (j : Int) + 7 ≤ L) (hk : k ≤ 115 + 3 * j) (hu : u ≤ 178400 + 900 * j) (next : ∀ (n k u : Nat) (h : Nat → sE), INV n h → k ≤ 115 + 3 * (j + 1) → u ≤ 178400 + 900 * (j + 1) → V (m_L, 2048, 600000, 7302250, 0, (fun r _ _ => r = some (.int (iI 1))), s_GL b L xs) k u n h 1724 [(3, .int (iI (7 * (j : Int)))), (2, .ref 77), (1, .ref 0), (0, .retAddr b)] []) : V (m_L, 2048, 600000, 7302250, 0, (fun r _ _ => r = some (.int (iI 1))), s_GL b L xs) k u n h 776 [(3, .int (iI (7 * (j : Int)))), (2, .ref 77), (1, .ref 0), (0, .retAddr b)] [] := by
  obtain ⟨hn, fs0, hf0⟩ := hIn n h hI
  obtain ⟨dx, dm, hdx, hdm, hsp⟩ := p18 (xs (iI (7 * (j : Int) + 1)).toNatClampNeg) n h hI
  refine v_aload_n dL_law_776 rfl ?_
  refine v_aload_no dL_law_777 rfl ?_
  refine v_iload_n dL_law_778 rfl ?_
  refine v_iconstI dL_law_779 ?_
  refine v_iaddI dL_law_780 ?_
  refine v_sld rfl dL_law_781 (iI_in (by omega) (by omega) (by omega)) ?_
  refine v_callV dL_law_782 ml_L_90 hsp hf0 rfl (s_lt hn rfl) rfl rfl (Nat.le_of_ble_eq_true rfl) hdx (show k + 0 ≤ 600000 by omega) (show u + 0 ≤ 7302250 by omega) ⟨Or.inr ⟨law_lvok hn, fun v hv => by cases hv⟩, fun r n1 h1 q => ?_⟩
  obtain ⟨v, rfl, ⟨hn1, fs1, hf1⟩, hsp1⟩ := q
  dsimp only [s_push]
  refine v_aload_n dL_law_785 rfl ?_
  refine v_aload_no dL_law_786 rfl ?_
  refine v_iload_n dL_law_787 rfl ?_
  refine v_iconstI dL_law_788 ?_
  refine v_iaddI dL_law_789 ?_
  refine v_sld rfl dL_law_790 (iI_in (by omega) (by omega) (by omega)) ?_
  refine v_callV dL_law_791 ml_L_93 hsp1 hf1 rfl (s_lt hn1 rfl) rfl rfl (Nat.le_of_ble_eq_true rfl) hdm (show k + 0 + 0 ≤ 600000 by omega) (show u + 0 + 0 ≤ 7302250 by omega) ⟨Or.inl (fun _ _ _ q => q.1), fun r n2 h2 q => ?_⟩
  obtain ⟨rfl, rfl, hI2⟩ := q
  dsimp only [s_push]
  refine v_icmp_same (tgt := 1724) dL_law_794 (by decide) ?_
  exact next _ _ _ _ hI2 (by omega) (by omega)
set_option maxRecDepth 10000 in
theorem law_case_19 {INV : Nat → (Nat → sE) → Prop} (hIn : ∀ n h, INV n h → 115 ≤ n ∧ ∃ fs, h 0 = .inr (11, fs)) (p19 : ∀ a1 a2 a3 : Int32, Pair m_X11_asks m_X12_asks 0 0 INV [.int a1, .int a2, .int a3]) {b L : Nat} {xs : Nat → Int32} (hL : L ≤ 3584) (j n k u : Nat) (h : Nat → sE) (hI : INV n h) (hj : 7 * (j : Int) + 7 ≤ L) (hk : k ≤ 115 + 3 * j) (hu : u ≤ 178400 + 900 * j) (next : ∀ (n k u : Nat) (h : Nat → sE), INV n h → k ≤ 115 + 3 * (j + 1) → u ≤ 178400 + 900 * (j + 1) → V (m_L, 2048, 600000, 7302250, 0, (fun r _ _ => r = some (.int (iI 1))), s_GL b L xs) k u n h 1724 [(3, .int (iI (7 * (j : Int)))), (2, .ref 77), (1, .ref 0), (0, .retAddr b)] []) : V (m_L, 2048, 600000, 7302250, 0, (fun r _ _ => r = some (.int (iI 1))), s_GL b L xs) k u n h 799 [(3, .int (iI (7 * (j : Int)))), (2, .ref 77), (1, .ref 0), (0, .retAddr b)] [] := by
  obtain ⟨hn, fs0, hf0⟩ := hIn n h hI
  obtain ⟨dx, dm, hdx, hdm, hsp⟩ := p19 (xs (iI (7 * (j : Int) + 1)).toNatClampNeg) (xs (iI (7 * (j : Int) + 2)).toNatClampNeg) (xs (iI (7 * (j : Int) + 3)).toNatClampNeg) n h hI
  refine v_aload_n dL_law_799 rfl ?_
  refine v_aload_no dL_law_800 rfl ?_
  refine v_iload_n dL_law_801 rfl ?_
  refine v_iconstI dL_law_802 ?_
  refine v_iaddI dL_law_803 ?_
  refine v_sld rfl dL_law_804 (iI_in (by omega) (by omega) (by omega)) ?_
  refine v_aload_no dL_law_805 rfl ?_
  refine v_iload_n dL_law_806 rfl ?_
  refine v_iconstI dL_law_807 ?_
  refine v_iaddI dL_law_808 ?_
  refine v_sld rfl dL_law_809 (iI_in (by omega) (by omega) (by omega)) ?_
  refine v_aload_no dL_law_810 rfl ?_
  refine v_iload_n dL_law_811 rfl ?_
  refine v_iconstI dL_law_812 ?_
  refine v_iaddI dL_law_813 ?_
  refine v_sld rfl dL_law_814 (iI_in (by omega) (by omega) (by omega)) ?_
  refine v_callV dL_law_815 ml_L_94 hsp hf0 rfl (s_lt hn rfl) rfl rfl (Nat.le_of_ble_eq_true rfl) hdx (show k + 0 ≤ 600000 by omega) (show u + 0 ≤ 7302250 by omega) ⟨Or.inr ⟨law_lvok hn, fun v hv => by cases hv⟩, fun r n1 h1 q => ?_⟩
  obtain ⟨v, rfl, ⟨hn1, fs1, hf1⟩, hsp1⟩ := q
  dsimp only [s_push]
  refine v_aload_n dL_law_818 rfl ?_
  refine v_aload_no dL_law_819 rfl ?_
  refine v_iload_n dL_law_820 rfl ?_
  refine v_iconstI dL_law_821 ?_
  refine v_iaddI dL_law_822 ?_
  refine v_sld rfl dL_law_823 (iI_in (by omega) (by omega) (by omega)) ?_
  refine v_aload_no dL_law_824 rfl ?_
  refine v_iload_n dL_law_825 rfl ?_
  refine v_iconstI dL_law_826 ?_
  refine v_iaddI dL_law_827 ?_
  refine v_sld rfl dL_law_828 (iI_in (by omega) (by omega) (by omega)) ?_
  refine v_aload_no dL_law_829 rfl ?_
  refine v_iload_n dL_law_830 rfl ?_
  refine v_iconstI dL_law_831 ?_
  refine v_iaddI dL_law_832 ?_
  refine v_sld rfl dL_law_833 (iI_in (by omega) (by omega) (by omega)) ?_
  refine v_callV dL_law_834 ml_L_97 hsp1 hf1 rfl (s_lt hn1 rfl) rfl rfl (Nat.le_of_ble_eq_true rfl) hdm (show k + 0 + 0 ≤ 600000 by omega) (show u + 0 + 0 ≤ 7302250 by omega) ⟨Or.inl (fun _ _ _ q => q.1), fun r n2 h2 q => ?_⟩
  obtain ⟨rfl, rfl, hI2⟩ := q
  dsimp only [s_push]
  refine v_icmp_same (tgt := 1724) dL_law_837 (by decide) ?_
  exact next _ _ _ _ hI2 (by omega) (by omega)
set_option maxRecDepth 10000 in
theorem law_case_20 {INV : Nat → (Nat → sE) → Prop} (hIn : ∀ n h, INV n h → 115 ≤ n ∧ ∃ fs, h 0 = .inr (11, fs)) (p20 : ∀ a1 a2 a3 : Int32, Pair m_X11_at m_X12_at 0 0 INV [.int a1, .int a2, .int a3]) {b L : Nat} {xs : Nat → Int32} (hL : L ≤ 3584) (j n k u : Nat) (h : Nat → sE) (hI : INV n h) (hj : 7 * (j : Int) + 7 ≤ L) (hk : k ≤ 115 + 3 * j) (hu : u ≤ 178400 + 900 * j) (next : ∀ (n k u : Nat) (h : Nat → sE), INV n h → k ≤ 115 + 3 * (j + 1) → u ≤ 178400 + 900 * (j + 1) → V (m_L, 2048, 600000, 7302250, 0, (fun r _ _ => r = some (.int (iI 1))), s_GL b L xs) k u n h 1724 [(3, .int (iI (7 * (j : Int)))), (2, .ref 77), (1, .ref 0), (0, .retAddr b)] []) : V (m_L, 2048, 600000, 7302250, 0, (fun r _ _ => r = some (.int (iI 1))), s_GL b L xs) k u n h 842 [(3, .int (iI (7 * (j : Int)))), (2, .ref 77), (1, .ref 0), (0, .retAddr b)] [] := by
  obtain ⟨hn, fs0, hf0⟩ := hIn n h hI
  obtain ⟨dx, dm, hdx, hdm, hsp⟩ := p20 (xs (iI (7 * (j : Int) + 1)).toNatClampNeg) (xs (iI (7 * (j : Int) + 2)).toNatClampNeg) (xs (iI (7 * (j : Int) + 3)).toNatClampNeg) n h hI
  refine v_aload_n dL_law_842 rfl ?_
  refine v_aload_no dL_law_843 rfl ?_
  refine v_iload_n dL_law_844 rfl ?_
  refine v_iconstI dL_law_845 ?_
  refine v_iaddI dL_law_846 ?_
  refine v_sld rfl dL_law_847 (iI_in (by omega) (by omega) (by omega)) ?_
  refine v_aload_no dL_law_848 rfl ?_
  refine v_iload_n dL_law_849 rfl ?_
  refine v_iconstI dL_law_850 ?_
  refine v_iaddI dL_law_851 ?_
  refine v_sld rfl dL_law_852 (iI_in (by omega) (by omega) (by omega)) ?_
  refine v_aload_no dL_law_853 rfl ?_
  refine v_iload_n dL_law_854 rfl ?_
  refine v_iconstI dL_law_855 ?_
  refine v_iaddI dL_law_856 ?_
  refine v_sld rfl dL_law_857 (iI_in (by omega) (by omega) (by omega)) ?_
  refine v_callV dL_law_858 ml_L_98 hsp hf0 rfl (s_lt hn rfl) rfl rfl (Nat.le_of_ble_eq_true rfl) hdx (show k + 0 ≤ 600000 by omega) (show u + 0 ≤ 7302250 by omega) ⟨Or.inr ⟨law_lvok hn, fun v hv => by cases hv⟩, fun r n1 h1 q => ?_⟩
  obtain ⟨v, rfl, ⟨hn1, fs1, hf1⟩, hsp1⟩ := q
  dsimp only [s_push]
  refine v_aload_n dL_law_861 rfl ?_
  refine v_aload_no dL_law_862 rfl ?_
  refine v_iload_n dL_law_863 rfl ?_
  refine v_iconstI dL_law_864 ?_
  refine v_iaddI dL_law_865 ?_
  refine v_sld rfl dL_law_866 (iI_in (by omega) (by omega) (by omega)) ?_
  refine v_aload_no dL_law_867 rfl ?_
  refine v_iload_n dL_law_868 rfl ?_
  refine v_iconstI dL_law_869 ?_
  refine v_iaddI dL_law_870 ?_
  refine v_sld rfl dL_law_871 (iI_in (by omega) (by omega) (by omega)) ?_
  refine v_aload_no dL_law_872 rfl ?_
  refine v_iload_n dL_law_873 rfl ?_
  refine v_iconstI dL_law_874 ?_
  refine v_iaddI dL_law_875 ?_
  refine v_sld rfl dL_law_876 (iI_in (by omega) (by omega) (by omega)) ?_
  refine v_callV dL_law_877 ml_L_101 hsp1 hf1 rfl (s_lt hn1 rfl) rfl rfl (Nat.le_of_ble_eq_true rfl) hdm (show k + 0 + 0 ≤ 600000 by omega) (show u + 0 + 0 ≤ 7302250 by omega) ⟨Or.inl (fun _ _ _ q => q.1), fun r n2 h2 q => ?_⟩
  obtain ⟨rfl, rfl, hI2⟩ := q
  dsimp only [s_push]
  refine v_icmp_same (tgt := 1724) dL_law_880 (by decide) ?_
  exact next _ _ _ _ hI2 (by omega) (by omega)
set_option maxRecDepth 10000 in
theorem law_case_21 {INV : Nat → (Nat → sE) → Prop} (hIn : ∀ n h, INV n h → 115 ≤ n ∧ ∃ fs, h 0 = .inr (11, fs)) (p21 : ∀ a1 : Int32, Pair m_X11_dark m_X12_dark 0 0 INV [.int a1]) {b L : Nat} {xs : Nat → Int32} (hL : L ≤ 3584) (j n k u : Nat) (h : Nat → sE) (hI : INV n h) (hj : 7 * (j : Int) + 7 ≤ L) (hk : k ≤ 115 + 3 * j) (hu : u ≤ 178400 + 900 * j) (next : ∀ (n k u : Nat) (h : Nat → sE), INV n h → k ≤ 115 + 3 * (j + 1) → u ≤ 178400 + 900 * (j + 1) → V (m_L, 2048, 600000, 7302250, 0, (fun r _ _ => r = some (.int (iI 1))), s_GL b L xs) k u n h 1724 [(3, .int (iI (7 * (j : Int)))), (2, .ref 77), (1, .ref 0), (0, .retAddr b)] []) : V (m_L, 2048, 600000, 7302250, 0, (fun r _ _ => r = some (.int (iI 1))), s_GL b L xs) k u n h 885 [(3, .int (iI (7 * (j : Int)))), (2, .ref 77), (1, .ref 0), (0, .retAddr b)] [] := by
  obtain ⟨hn, fs0, hf0⟩ := hIn n h hI
  obtain ⟨dx, dm, hdx, hdm, hsp⟩ := p21 (xs (iI (7 * (j : Int) + 1)).toNatClampNeg) n h hI
  refine v_aload_n dL_law_885 rfl ?_
  refine v_aload_no dL_law_886 rfl ?_
  refine v_iload_n dL_law_887 rfl ?_
  refine v_iconstI dL_law_888 ?_
  refine v_iaddI dL_law_889 ?_
  refine v_sld rfl dL_law_890 (iI_in (by omega) (by omega) (by omega)) ?_
  refine v_callV dL_law_891 ml_L_102 hsp hf0 rfl (s_lt hn rfl) rfl rfl (Nat.le_of_ble_eq_true rfl) hdx (show k + 0 ≤ 600000 by omega) (show u + 0 ≤ 7302250 by omega) ⟨Or.inr ⟨law_lvok hn, fun v hv => by cases hv⟩, fun r n1 h1 q => ?_⟩
  obtain ⟨v, rfl, ⟨hn1, fs1, hf1⟩, hsp1⟩ := q
  dsimp only [s_push]
  refine v_aload_n dL_law_894 rfl ?_
  refine v_aload_no dL_law_895 rfl ?_
  refine v_iload_n dL_law_896 rfl ?_
  refine v_iconstI dL_law_897 ?_
  refine v_iaddI dL_law_898 ?_
  refine v_sld rfl dL_law_899 (iI_in (by omega) (by omega) (by omega)) ?_
  refine v_callV dL_law_900 ml_L_105 hsp1 hf1 rfl (s_lt hn1 rfl) rfl rfl (Nat.le_of_ble_eq_true rfl) hdm (show k + 0 + 0 ≤ 600000 by omega) (show u + 0 + 0 ≤ 7302250 by omega) ⟨Or.inl (fun _ _ _ q => q.1), fun r n2 h2 q => ?_⟩
  obtain ⟨rfl, rfl, hI2⟩ := q
  dsimp only [s_push]
  refine v_icmp_same (tgt := 1724) dL_law_903 (by decide) ?_
  exact next _ _ _ _ hI2 (by omega) (by omega)
set_option maxRecDepth 10000 in
theorem law_case_22 {INV : Nat → (Nat → sE) → Prop} (hIn : ∀ n h, INV n h → 115 ≤ n ∧ ∃ fs, h 0 = .inr (11, fs)) (p22 : ∀ a1 a2 : Int32, Pair m_X11_heat m_X12_heat 0 0 INV [.int a1, .int a2]) {b L : Nat} {xs : Nat → Int32} (hL : L ≤ 3584) (j n k u : Nat) (h : Nat → sE) (hI : INV n h) (hj : 7 * (j : Int) + 7 ≤ L) (hk : k ≤ 115 + 3 * j) (hu : u ≤ 178400 + 900 * j) (next : ∀ (n k u : Nat) (h : Nat → sE), INV n h → k ≤ 115 + 3 * (j + 1) → u ≤ 178400 + 900 * (j + 1) → V (m_L, 2048, 600000, 7302250, 0, (fun r _ _ => r = some (.int (iI 1))), s_GL b L xs) k u n h 1724 [(3, .int (iI (7 * (j : Int)))), (2, .ref 77), (1, .ref 0), (0, .retAddr b)] []) : V (m_L, 2048, 600000, 7302250, 0, (fun r _ _ => r = some (.int (iI 1))), s_GL b L xs) k u n h 908 [(3, .int (iI (7 * (j : Int)))), (2, .ref 77), (1, .ref 0), (0, .retAddr b)] [] := by
  obtain ⟨hn, fs0, hf0⟩ := hIn n h hI
  obtain ⟨dx, dm, hdx, hdm, hsp⟩ := p22 (xs (iI (7 * (j : Int) + 1)).toNatClampNeg) (xs (iI (7 * (j : Int) + 2)).toNatClampNeg) n h hI
  refine v_aload_n dL_law_908 rfl ?_
  refine v_aload_no dL_law_909 rfl ?_
  refine v_iload_n dL_law_910 rfl ?_
  refine v_iconstI dL_law_911 ?_
  refine v_iaddI dL_law_912 ?_
  refine v_sld rfl dL_law_913 (iI_in (by omega) (by omega) (by omega)) ?_
  refine v_aload_no dL_law_914 rfl ?_
  refine v_iload_n dL_law_915 rfl ?_
  refine v_iconstI dL_law_916 ?_
  refine v_iaddI dL_law_917 ?_
  refine v_sld rfl dL_law_918 (iI_in (by omega) (by omega) (by omega)) ?_
  refine v_callV dL_law_919 ml_L_106 hsp hf0 rfl (s_lt hn rfl) rfl rfl (Nat.le_of_ble_eq_true rfl) hdx (show k + 0 ≤ 600000 by omega) (show u + 0 ≤ 7302250 by omega) ⟨Or.inr ⟨law_lvok hn, fun v hv => by cases hv⟩, fun r n1 h1 q => ?_⟩
  obtain ⟨v, rfl, ⟨hn1, fs1, hf1⟩, hsp1⟩ := q
  dsimp only [s_push]
  refine v_aload_n dL_law_922 rfl ?_
  refine v_aload_no dL_law_923 rfl ?_
  refine v_iload_n dL_law_924 rfl ?_
  refine v_iconstI dL_law_925 ?_
  refine v_iaddI dL_law_926 ?_
  refine v_sld rfl dL_law_927 (iI_in (by omega) (by omega) (by omega)) ?_
  refine v_aload_no dL_law_928 rfl ?_
  refine v_iload_n dL_law_929 rfl ?_
  refine v_iconstI dL_law_930 ?_
  refine v_iaddI dL_law_931 ?_
  refine v_sld rfl dL_law_932 (iI_in (by omega) (by omega) (by omega)) ?_
  refine v_callV dL_law_933 ml_L_109 hsp1 hf1 rfl (s_lt hn1 rfl) rfl rfl (Nat.le_of_ble_eq_true rfl) hdm (show k + 0 + 0 ≤ 600000 by omega) (show u + 0 + 0 ≤ 7302250 by omega) ⟨Or.inl (fun _ _ _ q => q.1), fun r n2 h2 q => ?_⟩
  obtain ⟨rfl, rfl, hI2⟩ := q
  dsimp only [s_push]
  refine v_icmp_same (tgt := 1724) dL_law_936 (by decide) ?_
  exact next _ _ _ _ hI2 (by omega) (by omega)
set_option maxRecDepth 10000 in
theorem law_case_23 {INV : Nat → (Nat → sE) → Prop} (hIn : ∀ n h, INV n h → 115 ≤ n ∧ ∃ fs, h 0 = .inr (11, fs)) (p23 : ∀ a1 : Int32, Pair m_X11_scorched m_X12_scorched 0 0 INV [.int a1]) {b L : Nat} {xs : Nat → Int32} (hL : L ≤ 3584) (j n k u : Nat) (h : Nat → sE) (hI : INV n h) (hj : 7 * (j : Int) + 7 ≤ L) (hk : k ≤ 115 + 3 * j) (hu : u ≤ 178400 + 900 * j) (next : ∀ (n k u : Nat) (h : Nat → sE), INV n h → k ≤ 115 + 3 * (j + 1) → u ≤ 178400 + 900 * (j + 1) → V (m_L, 2048, 600000, 7302250, 0, (fun r _ _ => r = some (.int (iI 1))), s_GL b L xs) k u n h 1724 [(3, .int (iI (7 * (j : Int)))), (2, .ref 77), (1, .ref 0), (0, .retAddr b)] []) : V (m_L, 2048, 600000, 7302250, 0, (fun r _ _ => r = some (.int (iI 1))), s_GL b L xs) k u n h 941 [(3, .int (iI (7 * (j : Int)))), (2, .ref 77), (1, .ref 0), (0, .retAddr b)] [] := by
  obtain ⟨hn, fs0, hf0⟩ := hIn n h hI
  obtain ⟨dx, dm, hdx, hdm, hsp⟩ := p23 (xs (iI (7 * (j : Int) + 1)).toNatClampNeg) n h hI
  refine v_aload_n dL_law_941 rfl ?_
  refine v_aload_no dL_law_942 rfl ?_
  refine v_iload_n dL_law_943 rfl ?_
  refine v_iconstI dL_law_944 ?_
  refine v_iaddI dL_law_945 ?_
  refine v_sld rfl dL_law_946 (iI_in (by omega) (by omega) (by omega)) ?_
  refine v_callV dL_law_947 ml_L_110 hsp hf0 rfl (s_lt hn rfl) rfl rfl (Nat.le_of_ble_eq_true rfl) hdx (show k + 0 ≤ 600000 by omega) (show u + 0 ≤ 7302250 by omega) ⟨Or.inr ⟨law_lvok hn, fun v hv => by cases hv⟩, fun r n1 h1 q => ?_⟩
  obtain ⟨v, rfl, ⟨hn1, fs1, hf1⟩, hsp1⟩ := q
  dsimp only [s_push]
  refine v_aload_n dL_law_950 rfl ?_
  refine v_aload_no dL_law_951 rfl ?_
  refine v_iload_n dL_law_952 rfl ?_
  refine v_iconstI dL_law_953 ?_
  refine v_iaddI dL_law_954 ?_
  refine v_sld rfl dL_law_955 (iI_in (by omega) (by omega) (by omega)) ?_
  refine v_callV dL_law_956 ml_L_113 hsp1 hf1 rfl (s_lt hn1 rfl) rfl rfl (Nat.le_of_ble_eq_true rfl) hdm (show k + 0 + 0 ≤ 600000 by omega) (show u + 0 + 0 ≤ 7302250 by omega) ⟨Or.inl (fun _ _ _ q => q.1), fun r n2 h2 q => ?_⟩
  obtain ⟨rfl, rfl, hI2⟩ := q
  dsimp only [s_push]
  refine v_icmp_same (tgt := 1724) dL_law_959 (by decide) ?_
  exact next _ _ _ _ hI2 (by omega) (by omega)
set_option maxRecDepth 10000 in
theorem law_case_24 {INV : Nat → (Nat → sE) → Prop} (hIn : ∀ n h, INV n h → 115 ≤ n ∧ ∃ fs, h 0 = .inr (11, fs)) (p24 : ∀ a1 : Int32, Pair m_X11_broken m_X12_broken 0 0 INV [.int a1]) {b L : Nat} {xs : Nat → Int32} (hL : L ≤ 3584) (j n k u : Nat) (h : Nat → sE) (hI : INV n h) (hj : 7 * (j : Int) + 7 ≤ L) (hk : k ≤ 115 + 3 * j) (hu : u ≤ 178400 + 900 * j) (next : ∀ (n k u : Nat) (h : Nat → sE), INV n h → k ≤ 115 + 3 * (j + 1) → u ≤ 178400 + 900 * (j + 1) → V (m_L, 2048, 600000, 7302250, 0, (fun r _ _ => r = some (.int (iI 1))), s_GL b L xs) k u n h 1724 [(3, .int (iI (7 * (j : Int)))), (2, .ref 77), (1, .ref 0), (0, .retAddr b)] []) : V (m_L, 2048, 600000, 7302250, 0, (fun r _ _ => r = some (.int (iI 1))), s_GL b L xs) k u n h 964 [(3, .int (iI (7 * (j : Int)))), (2, .ref 77), (1, .ref 0), (0, .retAddr b)] [] := by
  obtain ⟨hn, fs0, hf0⟩ := hIn n h hI
  obtain ⟨dx, dm, hdx, hdm, hsp⟩ := p24 (xs (iI (7 * (j : Int) + 1)).toNatClampNeg) n h hI
  refine v_aload_n dL_law_964 rfl ?_
  refine v_aload_no dL_law_965 rfl ?_
  refine v_iload_n dL_law_966 rfl ?_
  refine v_iconstI dL_law_967 ?_
  refine v_iaddI dL_law_968 ?_
  refine v_sld rfl dL_law_969 (iI_in (by omega) (by omega) (by omega)) ?_
  refine v_callV dL_law_970 ml_L_114 hsp hf0 rfl (s_lt hn rfl) rfl rfl (Nat.le_of_ble_eq_true rfl) hdx (show k + 0 ≤ 600000 by omega) (show u + 0 ≤ 7302250 by omega) ⟨Or.inr ⟨law_lvok hn, fun v hv => by cases hv⟩, fun r n1 h1 q => ?_⟩
  obtain ⟨v, rfl, ⟨hn1, fs1, hf1⟩, hsp1⟩ := q
  dsimp only [s_push]
  refine v_aload_n dL_law_973 rfl ?_
  refine v_aload_no dL_law_974 rfl ?_
  refine v_iload_n dL_law_975 rfl ?_
  refine v_iconstI dL_law_976 ?_
  refine v_iaddI dL_law_977 ?_
  refine v_sld rfl dL_law_978 (iI_in (by omega) (by omega) (by omega)) ?_
  refine v_callV dL_law_979 ml_L_117 hsp1 hf1 rfl (s_lt hn1 rfl) rfl rfl (Nat.le_of_ble_eq_true rfl) hdm (show k + 0 + 0 ≤ 600000 by omega) (show u + 0 + 0 ≤ 7302250 by omega) ⟨Or.inl (fun _ _ _ q => q.1), fun r n2 h2 q => ?_⟩
  obtain ⟨rfl, rfl, hI2⟩ := q
  dsimp only [s_push]
  refine v_icmp_same (tgt := 1724) dL_law_982 (by decide) ?_
  exact next _ _ _ _ hI2 (by omega) (by omega)
set_option maxRecDepth 10000 in
theorem law_case_25 {INV : Nat → (Nat → sE) → Prop} (hIn : ∀ n h, INV n h → 115 ≤ n ∧ ∃ fs, h 0 = .inr (11, fs)) (p25 : ∀ a1 : Int32, Pair m_X11_judge m_X12_judge 0 0 INV [.int a1]) {b L : Nat} {xs : Nat → Int32} (hL : L ≤ 3584) (j n k u : Nat) (h : Nat → sE) (hI : INV n h) (hj : 7 * (j : Int) + 7 ≤ L) (hk : k ≤ 115 + 3 * j) (hu : u ≤ 178400 + 900 * j) (next : ∀ (n k u : Nat) (h : Nat → sE), INV n h → k ≤ 115 + 3 * (j + 1) → u ≤ 178400 + 900 * (j + 1) → V (m_L, 2048, 600000, 7302250, 0, (fun r _ _ => r = some (.int (iI 1))), s_GL b L xs) k u n h 1724 [(3, .int (iI (7 * (j : Int)))), (2, .ref 77), (1, .ref 0), (0, .retAddr b)] []) : V (m_L, 2048, 600000, 7302250, 0, (fun r _ _ => r = some (.int (iI 1))), s_GL b L xs) k u n h 987 [(3, .int (iI (7 * (j : Int)))), (2, .ref 77), (1, .ref 0), (0, .retAddr b)] [] := by
  obtain ⟨hn, fs0, hf0⟩ := hIn n h hI
  obtain ⟨dx, dm, hdx, hdm, hsp⟩ := p25 (xs (iI (7 * (j : Int) + 1)).toNatClampNeg) n h hI
  refine v_aload_n dL_law_987 rfl ?_
  refine v_aload_no dL_law_988 rfl ?_
  refine v_iload_n dL_law_989 rfl ?_
  refine v_iconstI dL_law_990 ?_
  refine v_iaddI dL_law_991 ?_
  refine v_sld rfl dL_law_992 (iI_in (by omega) (by omega) (by omega)) ?_
  refine v_callV dL_law_993 ml_L_118 hsp hf0 rfl (s_lt hn rfl) rfl rfl (Nat.le_of_ble_eq_true rfl) hdx (show k + 0 ≤ 600000 by omega) (show u + 0 ≤ 7302250 by omega) ⟨Or.inr ⟨law_lvok hn, fun v hv => by cases hv⟩, fun r n1 h1 q => ?_⟩
  obtain ⟨v, rfl, ⟨hn1, fs1, hf1⟩, hsp1⟩ := q
  dsimp only [s_push]
  refine v_aload_n dL_law_996 rfl ?_
  refine v_aload_no dL_law_997 rfl ?_
  refine v_iload_n dL_law_998 rfl ?_
  refine v_iconstI dL_law_999 ?_
  refine v_iaddI dL_law_1000 ?_
  refine v_sld rfl dL_law_1001 (iI_in (by omega) (by omega) (by omega)) ?_
  refine v_callV dL_law_1002 ml_L_121 hsp1 hf1 rfl (s_lt hn1 rfl) rfl rfl (Nat.le_of_ble_eq_true rfl) hdm (show k + 0 + 0 ≤ 600000 by omega) (show u + 0 + 0 ≤ 7302250 by omega) ⟨Or.inl (fun _ _ _ q => q.1), fun r n2 h2 q => ?_⟩
  obtain ⟨rfl, rfl, hI2⟩ := q
  dsimp only [s_push]
  refine v_icmp_same (tgt := 1724) dL_law_1005 (by decide) ?_
  exact next _ _ _ _ hI2 (by omega) (by omega)
set_option maxRecDepth 10000 in
theorem law_case_26 {INV : Nat → (Nat → sE) → Prop} (hIn : ∀ n h, INV n h → 115 ≤ n ∧ ∃ fs, h 0 = .inr (11, fs)) (p26 : ∀ a1 a2 a3 a4 a5 : Int32, Pair m_X11_drive m_X12_drive 0 0 INV [.int a1, .int a2, .int a3, .int a4, .int a5]) {b L : Nat} {xs : Nat → Int32} (hL : L ≤ 3584) (j n k u : Nat) (h : Nat → sE) (hI : INV n h) (hj : 7 * (j : Int) + 7 ≤ L) (hk : k ≤ 115 + 3 * j) (hu : u ≤ 178400 + 900 * j) (next : ∀ (n k u : Nat) (h : Nat → sE), INV n h → k ≤ 115 + 3 * (j + 1) → u ≤ 178400 + 900 * (j + 1) → V (m_L, 2048, 600000, 7302250, 0, (fun r _ _ => r = some (.int (iI 1))), s_GL b L xs) k u n h 1724 [(3, .int (iI (7 * (j : Int)))), (2, .ref 77), (1, .ref 0), (0, .retAddr b)] []) : V (m_L, 2048, 600000, 7302250, 0, (fun r _ _ => r = some (.int (iI 1))), s_GL b L xs) k u n h 1010 [(3, .int (iI (7 * (j : Int)))), (2, .ref 77), (1, .ref 0), (0, .retAddr b)] [] := by
  obtain ⟨hn, fs0, hf0⟩ := hIn n h hI
  obtain ⟨dx, dm, hdx, hdm, hsp⟩ := p26 (xs (iI (7 * (j : Int) + 1)).toNatClampNeg) (xs (iI (7 * (j : Int) + 2)).toNatClampNeg) (xs (iI (7 * (j : Int) + 3)).toNatClampNeg) (xs (iI (7 * (j : Int) + 4)).toNatClampNeg) (xs (iI (7 * (j : Int) + 5)).toNatClampNeg) n h hI
  refine v_aload_n dL_law_1010 rfl ?_
  refine v_aload_no dL_law_1011 rfl ?_
  refine v_iload_n dL_law_1012 rfl ?_
  refine v_iconstI dL_law_1013 ?_
  refine v_iaddI dL_law_1014 ?_
  refine v_sld rfl dL_law_1015 (iI_in (by omega) (by omega) (by omega)) ?_
  refine v_aload_no dL_law_1016 rfl ?_
  refine v_iload_n dL_law_1017 rfl ?_
  refine v_iconstI dL_law_1018 ?_
  refine v_iaddI dL_law_1019 ?_
  refine v_sld rfl dL_law_1020 (iI_in (by omega) (by omega) (by omega)) ?_
  refine v_aload_no dL_law_1021 rfl ?_
  refine v_iload_n dL_law_1022 rfl ?_
  refine v_iconstI dL_law_1023 ?_
  refine v_iaddI dL_law_1024 ?_
  refine v_sld rfl dL_law_1025 (iI_in (by omega) (by omega) (by omega)) ?_
  refine v_aload_no dL_law_1026 rfl ?_
  refine v_iload_n dL_law_1027 rfl ?_
  refine v_iconstI dL_law_1028 ?_
  refine v_iaddI dL_law_1029 ?_
  refine v_sld rfl dL_law_1030 (iI_in (by omega) (by omega) (by omega)) ?_
  refine v_aload_no dL_law_1031 rfl ?_
  refine v_iload_n dL_law_1032 rfl ?_
  refine v_iconstI dL_law_1033 ?_
  refine v_iaddI dL_law_1034 ?_
  refine v_sld rfl dL_law_1035 (iI_in (by omega) (by omega) (by omega)) ?_
  refine v_callV dL_law_1036 ml_L_122 hsp hf0 rfl (s_lt hn rfl) rfl rfl (Nat.le_of_ble_eq_true rfl) hdx (show k + 0 ≤ 600000 by omega) (show u + 0 ≤ 7302250 by omega) ⟨Or.inr ⟨law_lvok hn, fun v hv => by cases hv⟩, fun r n1 h1 q => ?_⟩
  obtain ⟨v, rfl, ⟨hn1, fs1, hf1⟩, hsp1⟩ := q
  dsimp only [s_push]
  refine v_aload_n dL_law_1039 rfl ?_
  refine v_aload_no dL_law_1040 rfl ?_
  refine v_iload_n dL_law_1041 rfl ?_
  refine v_iconstI dL_law_1042 ?_
  refine v_iaddI dL_law_1043 ?_
  refine v_sld rfl dL_law_1044 (iI_in (by omega) (by omega) (by omega)) ?_
  refine v_aload_no dL_law_1045 rfl ?_
  refine v_iload_n dL_law_1046 rfl ?_
  refine v_iconstI dL_law_1047 ?_
  refine v_iaddI dL_law_1048 ?_
  refine v_sld rfl dL_law_1049 (iI_in (by omega) (by omega) (by omega)) ?_
  refine v_aload_no dL_law_1050 rfl ?_
  refine v_iload_n dL_law_1051 rfl ?_
  refine v_iconstI dL_law_1052 ?_
  refine v_iaddI dL_law_1053 ?_
  refine v_sld rfl dL_law_1054 (iI_in (by omega) (by omega) (by omega)) ?_
  refine v_aload_no dL_law_1055 rfl ?_
  refine v_iload_n dL_law_1056 rfl ?_
  refine v_iconstI dL_law_1057 ?_
  refine v_iaddI dL_law_1058 ?_
  refine v_sld rfl dL_law_1059 (iI_in (by omega) (by omega) (by omega)) ?_
  refine v_aload_no dL_law_1060 rfl ?_
  refine v_iload_n dL_law_1061 rfl ?_
  refine v_iconstI dL_law_1062 ?_
  refine v_iaddI dL_law_1063 ?_
  refine v_sld rfl dL_law_1064 (iI_in (by omega) (by omega) (by omega)) ?_
  refine v_callV dL_law_1065 ml_L_125 hsp1 hf1 rfl (s_lt hn1 rfl) rfl rfl (Nat.le_of_ble_eq_true rfl) hdm (show k + 0 + 0 ≤ 600000 by omega) (show u + 0 + 0 ≤ 7302250 by omega) ⟨Or.inl (fun _ _ _ q => q.1), fun r n2 h2 q => ?_⟩
  obtain ⟨rfl, rfl, hI2⟩ := q
  dsimp only [s_push]
  refine v_icmp_same (tgt := 1724) dL_law_1068 (by decide) ?_
  exact next _ _ _ _ hI2 (by omega) (by omega)
set_option maxRecDepth 10000 in
theorem law_case_27 {INV : Nat → (Nat → sE) → Prop} (hIn : ∀ n h, INV n h → 115 ≤ n ∧ ∃ fs, h 0 = .inr (11, fs)) (p27 : ∀ a1 a2 a3 : Int32, Pair m_X11_pasture m_X12_pasture 0 0 INV [.int a1, .int a2, .int a3]) {b L : Nat} {xs : Nat → Int32} (hL : L ≤ 3584) (j n k u : Nat) (h : Nat → sE) (hI : INV n h) (hj : 7 * (j : Int) + 7 ≤ L) (hk : k ≤ 115 + 3 * j) (hu : u ≤ 178400 + 900 * j) (next : ∀ (n k u : Nat) (h : Nat → sE), INV n h → k ≤ 115 + 3 * (j + 1) → u ≤ 178400 + 900 * (j + 1) → V (m_L, 2048, 600000, 7302250, 0, (fun r _ _ => r = some (.int (iI 1))), s_GL b L xs) k u n h 1724 [(3, .int (iI (7 * (j : Int)))), (2, .ref 77), (1, .ref 0), (0, .retAddr b)] []) : V (m_L, 2048, 600000, 7302250, 0, (fun r _ _ => r = some (.int (iI 1))), s_GL b L xs) k u n h 1073 [(3, .int (iI (7 * (j : Int)))), (2, .ref 77), (1, .ref 0), (0, .retAddr b)] [] := by
  obtain ⟨hn, fs0, hf0⟩ := hIn n h hI
  obtain ⟨dx, dm, hdx, hdm, hsp⟩ := p27 (xs (iI (7 * (j : Int) + 1)).toNatClampNeg) (xs (iI (7 * (j : Int) + 2)).toNatClampNeg) (xs (iI (7 * (j : Int) + 3)).toNatClampNeg) n h hI
  refine v_aload_n dL_law_1073 rfl ?_
  refine v_aload_no dL_law_1074 rfl ?_
  refine v_iload_n dL_law_1075 rfl ?_
  refine v_iconstI dL_law_1076 ?_
  refine v_iaddI dL_law_1077 ?_
  refine v_sld rfl dL_law_1078 (iI_in (by omega) (by omega) (by omega)) ?_
  refine v_aload_no dL_law_1079 rfl ?_
  refine v_iload_n dL_law_1080 rfl ?_
  refine v_iconstI dL_law_1081 ?_
  refine v_iaddI dL_law_1082 ?_
  refine v_sld rfl dL_law_1083 (iI_in (by omega) (by omega) (by omega)) ?_
  refine v_aload_no dL_law_1084 rfl ?_
  refine v_iload_n dL_law_1085 rfl ?_
  refine v_iconstI dL_law_1086 ?_
  refine v_iaddI dL_law_1087 ?_
  refine v_sld rfl dL_law_1088 (iI_in (by omega) (by omega) (by omega)) ?_
  refine v_callV dL_law_1089 ml_L_126 hsp hf0 rfl (s_lt hn rfl) rfl rfl (Nat.le_of_ble_eq_true rfl) hdx (show k + 0 ≤ 600000 by omega) (show u + 0 ≤ 7302250 by omega) ⟨Or.inr ⟨law_lvok hn, fun v hv => by cases hv⟩, fun r n1 h1 q => ?_⟩
  obtain ⟨v, rfl, ⟨hn1, fs1, hf1⟩, hsp1⟩ := q
  dsimp only [s_push]
  refine v_aload_n dL_law_1092 rfl ?_
  refine v_aload_no dL_law_1093 rfl ?_
  refine v_iload_n dL_law_1094 rfl ?_
  refine v_iconstI dL_law_1095 ?_
  refine v_iaddI dL_law_1096 ?_
  refine v_sld rfl dL_law_1097 (iI_in (by omega) (by omega) (by omega)) ?_
  refine v_aload_no dL_law_1098 rfl ?_
  refine v_iload_n dL_law_1099 rfl ?_
  refine v_iconstI dL_law_1100 ?_
  refine v_iaddI dL_law_1101 ?_
  refine v_sld rfl dL_law_1102 (iI_in (by omega) (by omega) (by omega)) ?_
  refine v_aload_no dL_law_1103 rfl ?_
  refine v_iload_n dL_law_1104 rfl ?_
  refine v_iconstI dL_law_1105 ?_
  refine v_iaddI dL_law_1106 ?_
  refine v_sld rfl dL_law_1107 (iI_in (by omega) (by omega) (by omega)) ?_
  refine v_callV dL_law_1108 ml_L_129 hsp1 hf1 rfl (s_lt hn1 rfl) rfl rfl (Nat.le_of_ble_eq_true rfl) hdm (show k + 0 + 0 ≤ 600000 by omega) (show u + 0 + 0 ≤ 7302250 by omega) ⟨Or.inl (fun _ _ _ q => q.1), fun r n2 h2 q => ?_⟩
  obtain ⟨rfl, rfl, hI2⟩ := q
  dsimp only [s_push]
  refine v_icmp_same (tgt := 1724) dL_law_1111 (by decide) ?_
  exact next _ _ _ _ hI2 (by omega) (by omega)
set_option maxRecDepth 10000 in
theorem law_case_28 {INV : Nat → (Nat → sE) → Prop} (hIn : ∀ n h, INV n h → 115 ≤ n ∧ ∃ fs, h 0 = .inr (11, fs)) (p28 : ∀ a1 a2 : Int32, Pair m_X11_serve m_X12_serve 0 0 INV [.int a1, .int a2]) {b L : Nat} {xs : Nat → Int32} (hL : L ≤ 3584) (j n k u : Nat) (h : Nat → sE) (hI : INV n h) (hj : 7 * (j : Int) + 7 ≤ L) (hk : k ≤ 115 + 3 * j) (hu : u ≤ 178400 + 900 * j) (next : ∀ (n k u : Nat) (h : Nat → sE), INV n h → k ≤ 115 + 3 * (j + 1) → u ≤ 178400 + 900 * (j + 1) → V (m_L, 2048, 600000, 7302250, 0, (fun r _ _ => r = some (.int (iI 1))), s_GL b L xs) k u n h 1724 [(3, .int (iI (7 * (j : Int)))), (2, .ref 77), (1, .ref 0), (0, .retAddr b)] []) : V (m_L, 2048, 600000, 7302250, 0, (fun r _ _ => r = some (.int (iI 1))), s_GL b L xs) k u n h 1116 [(3, .int (iI (7 * (j : Int)))), (2, .ref 77), (1, .ref 0), (0, .retAddr b)] [] := by
  obtain ⟨hn, fs0, hf0⟩ := hIn n h hI
  obtain ⟨dx, dm, hdx, hdm, hsp⟩ := p28 (xs (iI (7 * (j : Int) + 1)).toNatClampNeg) (xs (iI (7 * (j : Int) + 2)).toNatClampNeg) n h hI
  refine v_aload_n dL_law_1116 rfl ?_
  refine v_aload_no dL_law_1117 rfl ?_
  refine v_iload_n dL_law_1118 rfl ?_
  refine v_iconstI dL_law_1119 ?_
  refine v_iaddI dL_law_1120 ?_
  refine v_sld rfl dL_law_1121 (iI_in (by omega) (by omega) (by omega)) ?_
  refine v_aload_no dL_law_1122 rfl ?_
  refine v_iload_n dL_law_1123 rfl ?_
  refine v_iconstI dL_law_1124 ?_
  refine v_iaddI dL_law_1125 ?_
  refine v_sld rfl dL_law_1126 (iI_in (by omega) (by omega) (by omega)) ?_
  refine v_callV dL_law_1127 ml_L_130 hsp hf0 rfl (s_lt hn rfl) rfl rfl (Nat.le_of_ble_eq_true rfl) hdx (show k + 0 ≤ 600000 by omega) (show u + 0 ≤ 7302250 by omega) ⟨Or.inr ⟨law_lvok hn, fun v hv => by cases hv⟩, fun r n1 h1 q => ?_⟩
  obtain ⟨v, rfl, ⟨hn1, fs1, hf1⟩, hsp1⟩ := q
  dsimp only [s_push]
  refine v_aload_n dL_law_1130 rfl ?_
  refine v_aload_no dL_law_1131 rfl ?_
  refine v_iload_n dL_law_1132 rfl ?_
  refine v_iconstI dL_law_1133 ?_
  refine v_iaddI dL_law_1134 ?_
  refine v_sld rfl dL_law_1135 (iI_in (by omega) (by omega) (by omega)) ?_
  refine v_aload_no dL_law_1136 rfl ?_
  refine v_iload_n dL_law_1137 rfl ?_
  refine v_iconstI dL_law_1138 ?_
  refine v_iaddI dL_law_1139 ?_
  refine v_sld rfl dL_law_1140 (iI_in (by omega) (by omega) (by omega)) ?_
  refine v_callV dL_law_1141 ml_L_133 hsp1 hf1 rfl (s_lt hn1 rfl) rfl rfl (Nat.le_of_ble_eq_true rfl) hdm (show k + 0 + 0 ≤ 600000 by omega) (show u + 0 + 0 ≤ 7302250 by omega) ⟨Or.inl (fun _ _ _ q => q.1), fun r n2 h2 q => ?_⟩
  obtain ⟨rfl, rfl, hI2⟩ := q
  dsimp only [s_push]
  refine v_icmp_same (tgt := 1724) dL_law_1144 (by decide) ?_
  exact next _ _ _ _ hI2 (by omega) (by omega)
set_option maxRecDepth 10000 in
theorem law_case_29 {INV : Nat → (Nat → sE) → Prop} (hIn : ∀ n h, INV n h → 115 ≤ n ∧ ∃ fs, h 0 = .inr (11, fs)) (p29 : ∀ a1 a2 a3 : Int32, Pair m_X11_cross m_X12_cross 0 0 INV [.int a1, .int a2, .int a3]) {b L : Nat} {xs : Nat → Int32} (hL : L ≤ 3584) (j n k u : Nat) (h : Nat → sE) (hI : INV n h) (hj : 7 * (j : Int) + 7 ≤ L) (hk : k ≤ 115 + 3 * j) (hu : u ≤ 178400 + 900 * j) (next : ∀ (n k u : Nat) (h : Nat → sE), INV n h → k ≤ 115 + 3 * (j + 1) → u ≤ 178400 + 900 * (j + 1) → V (m_L, 2048, 600000, 7302250, 0, (fun r _ _ => r = some (.int (iI 1))), s_GL b L xs) k u n h 1724 [(3, .int (iI (7 * (j : Int)))), (2, .ref 77), (1, .ref 0), (0, .retAddr b)] []) : V (m_L, 2048, 600000, 7302250, 0, (fun r _ _ => r = some (.int (iI 1))), s_GL b L xs) k u n h 1149 [(3, .int (iI (7 * (j : Int)))), (2, .ref 77), (1, .ref 0), (0, .retAddr b)] [] := by
  obtain ⟨hn, fs0, hf0⟩ := hIn n h hI
  obtain ⟨dx, dm, hdx, hdm, hsp⟩ := p29 (xs (iI (7 * (j : Int) + 1)).toNatClampNeg) (xs (iI (7 * (j : Int) + 2)).toNatClampNeg) (xs (iI (7 * (j : Int) + 3)).toNatClampNeg) n h hI
  refine v_aload_n dL_law_1149 rfl ?_
  refine v_aload_no dL_law_1150 rfl ?_
  refine v_iload_n dL_law_1151 rfl ?_
  refine v_iconstI dL_law_1152 ?_
  refine v_iaddI dL_law_1153 ?_
  refine v_sld rfl dL_law_1154 (iI_in (by omega) (by omega) (by omega)) ?_
  refine v_aload_no dL_law_1155 rfl ?_
  refine v_iload_n dL_law_1156 rfl ?_
  refine v_iconstI dL_law_1157 ?_
  refine v_iaddI dL_law_1158 ?_
  refine v_sld rfl dL_law_1159 (iI_in (by omega) (by omega) (by omega)) ?_
  refine v_aload_no dL_law_1160 rfl ?_
  refine v_iload_n dL_law_1161 rfl ?_
  refine v_iconstI dL_law_1162 ?_
  refine v_iaddI dL_law_1163 ?_
  refine v_sld rfl dL_law_1164 (iI_in (by omega) (by omega) (by omega)) ?_
  refine v_callV dL_law_1165 ml_L_134 hsp hf0 rfl (s_lt hn rfl) rfl rfl (Nat.le_of_ble_eq_true rfl) hdx (show k + 0 ≤ 600000 by omega) (show u + 0 ≤ 7302250 by omega) ⟨Or.inr ⟨law_lvok hn, fun v hv => by cases hv⟩, fun r n1 h1 q => ?_⟩
  obtain ⟨v, rfl, ⟨hn1, fs1, hf1⟩, hsp1⟩ := q
  dsimp only [s_push]
  refine v_aload_n dL_law_1168 rfl ?_
  refine v_aload_no dL_law_1169 rfl ?_
  refine v_iload_n dL_law_1170 rfl ?_
  refine v_iconstI dL_law_1171 ?_
  refine v_iaddI dL_law_1172 ?_
  refine v_sld rfl dL_law_1173 (iI_in (by omega) (by omega) (by omega)) ?_
  refine v_aload_no dL_law_1174 rfl ?_
  refine v_iload_n dL_law_1175 rfl ?_
  refine v_iconstI dL_law_1176 ?_
  refine v_iaddI dL_law_1177 ?_
  refine v_sld rfl dL_law_1178 (iI_in (by omega) (by omega) (by omega)) ?_
  refine v_aload_no dL_law_1179 rfl ?_
  refine v_iload_n dL_law_1180 rfl ?_
  refine v_iconstI dL_law_1181 ?_
  refine v_iaddI dL_law_1182 ?_
  refine v_sld rfl dL_law_1183 (iI_in (by omega) (by omega) (by omega)) ?_
  refine v_callV dL_law_1184 ml_L_137 hsp1 hf1 rfl (s_lt hn1 rfl) rfl rfl (Nat.le_of_ble_eq_true rfl) hdm (show k + 0 + 0 ≤ 600000 by omega) (show u + 0 + 0 ≤ 7302250 by omega) ⟨Or.inl (fun _ _ _ q => q.1), fun r n2 h2 q => ?_⟩
  obtain ⟨rfl, rfl, hI2⟩ := q
  dsimp only [s_push]
  refine v_icmp_same (tgt := 1724) dL_law_1187 (by decide) ?_
  exact next _ _ _ _ hI2 (by omega) (by omega)
set_option maxRecDepth 10000 in
theorem law_case_30 {INV : Nat → (Nat → sE) → Prop} (hIn : ∀ n h, INV n h → 115 ≤ n ∧ ∃ fs, h 0 = .inr (11, fs)) (p30 : ∀ a1 a2 : Int32, Pair m_X11_part m_X12_part 0 0 INV [.int a1, .int a2]) {b L : Nat} {xs : Nat → Int32} (hL : L ≤ 3584) (j n k u : Nat) (h : Nat → sE) (hI : INV n h) (hj : 7 * (j : Int) + 7 ≤ L) (hk : k ≤ 115 + 3 * j) (hu : u ≤ 178400 + 900 * j) (next : ∀ (n k u : Nat) (h : Nat → sE), INV n h → k ≤ 115 + 3 * (j + 1) → u ≤ 178400 + 900 * (j + 1) → V (m_L, 2048, 600000, 7302250, 0, (fun r _ _ => r = some (.int (iI 1))), s_GL b L xs) k u n h 1724 [(3, .int (iI (7 * (j : Int)))), (2, .ref 77), (1, .ref 0), (0, .retAddr b)] []) : V (m_L, 2048, 600000, 7302250, 0, (fun r _ _ => r = some (.int (iI 1))), s_GL b L xs) k u n h 1192 [(3, .int (iI (7 * (j : Int)))), (2, .ref 77), (1, .ref 0), (0, .retAddr b)] [] := by
  obtain ⟨hn, fs0, hf0⟩ := hIn n h hI
  obtain ⟨dx, dm, hdx, hdm, hsp⟩ := p30 (xs (iI (7 * (j : Int) + 1)).toNatClampNeg) (xs (iI (7 * (j : Int) + 2)).toNatClampNeg) n h hI
  refine v_aload_n dL_law_1192 rfl ?_
  refine v_aload_no dL_law_1193 rfl ?_
  refine v_iload_n dL_law_1194 rfl ?_
  refine v_iconstI dL_law_1195 ?_
  refine v_iaddI dL_law_1196 ?_
  refine v_sld rfl dL_law_1197 (iI_in (by omega) (by omega) (by omega)) ?_
  refine v_aload_no dL_law_1198 rfl ?_
  refine v_iload_n dL_law_1199 rfl ?_
  refine v_iconstI dL_law_1200 ?_
  refine v_iaddI dL_law_1201 ?_
  refine v_sld rfl dL_law_1202 (iI_in (by omega) (by omega) (by omega)) ?_
  refine v_callV dL_law_1203 ml_L_138 hsp hf0 rfl (s_lt hn rfl) rfl rfl (Nat.le_of_ble_eq_true rfl) hdx (show k + 0 ≤ 600000 by omega) (show u + 0 ≤ 7302250 by omega) ⟨Or.inr ⟨law_lvok hn, fun v hv => by cases hv⟩, fun r n1 h1 q => ?_⟩
  obtain ⟨v, rfl, ⟨hn1, fs1, hf1⟩, hsp1⟩ := q
  dsimp only [s_push]
  refine v_aload_n dL_law_1206 rfl ?_
  refine v_aload_no dL_law_1207 rfl ?_
  refine v_iload_n dL_law_1208 rfl ?_
  refine v_iconstI dL_law_1209 ?_
  refine v_iaddI dL_law_1210 ?_
  refine v_sld rfl dL_law_1211 (iI_in (by omega) (by omega) (by omega)) ?_
  refine v_aload_no dL_law_1212 rfl ?_
  refine v_iload_n dL_law_1213 rfl ?_
  refine v_iconstI dL_law_1214 ?_
  refine v_iaddI dL_law_1215 ?_
  refine v_sld rfl dL_law_1216 (iI_in (by omega) (by omega) (by omega)) ?_
  refine v_callV dL_law_1217 ml_L_141 hsp1 hf1 rfl (s_lt hn1 rfl) rfl rfl (Nat.le_of_ble_eq_true rfl) hdm (show k + 0 + 0 ≤ 600000 by omega) (show u + 0 + 0 ≤ 7302250 by omega) ⟨Or.inl (fun _ _ _ q => q.1), fun r n2 h2 q => ?_⟩
  obtain ⟨rfl, rfl, hI2⟩ := q
  dsimp only [s_push]
  refine v_icmp_same (tgt := 1724) dL_law_1220 (by decide) ?_
  exact next _ _ _ _ hI2 (by omega) (by omega)
set_option maxRecDepth 10000 in
theorem law_case_31 {INV : Nat → (Nat → sE) → Prop} (hIn : ∀ n h, INV n h → 115 ≤ n ∧ ∃ fs, h 0 = .inr (11, fs)) (p31 : ∀ a1 a2 a3 : Int32, PairL m_X11_likely m_X12_likely 0 0 INV [.int a1, .int a2, .int a3]) {b L : Nat} {xs : Nat → Int32} (hL : L ≤ 3584) (j n k u : Nat) (h : Nat → sE) (hI : INV n h) (hj : 7 * (j : Int) + 7 ≤ L) (hk : k ≤ 115 + 3 * j) (hu : u ≤ 178400 + 900 * j) (next : ∀ (n k u : Nat) (h : Nat → sE), INV n h → k ≤ 115 + 3 * (j + 1) → u ≤ 178400 + 900 * (j + 1) → V (m_L, 2048, 600000, 7302250, 0, (fun r _ _ => r = some (.int (iI 1))), s_GL b L xs) k u n h 1724 [(3, .int (iI (7 * (j : Int)))), (2, .ref 77), (1, .ref 0), (0, .retAddr b)] []) : V (m_L, 2048, 600000, 7302250, 0, (fun r _ _ => r = some (.int (iI 1))), s_GL b L xs) k u n h 1225 [(3, .int (iI (7 * (j : Int)))), (2, .ref 77), (1, .ref 0), (0, .retAddr b)] [] := by
  obtain ⟨hn, fs0, hf0⟩ := hIn n h hI
  obtain ⟨dx, dm, hdx, hdm, hsp⟩ := p31 (xs (iI (7 * (j : Int) + 1)).toNatClampNeg) (xs (iI (7 * (j : Int) + 2)).toNatClampNeg) (xs (iI (7 * (j : Int) + 3)).toNatClampNeg) n h hI
  refine v_aload_n dL_law_1225 rfl ?_
  refine v_aload_no dL_law_1226 rfl ?_
  refine v_iload_n dL_law_1227 rfl ?_
  refine v_iconstI dL_law_1228 ?_
  refine v_iaddI dL_law_1229 ?_
  refine v_sld rfl dL_law_1230 (iI_in (by omega) (by omega) (by omega)) ?_
  refine v_aload_no dL_law_1231 rfl ?_
  refine v_iload_n dL_law_1232 rfl ?_
  refine v_iconstI dL_law_1233 ?_
  refine v_iaddI dL_law_1234 ?_
  refine v_sld rfl dL_law_1235 (iI_in (by omega) (by omega) (by omega)) ?_
  refine v_aload_no dL_law_1236 rfl ?_
  refine v_iload_n dL_law_1237 rfl ?_
  refine v_iconstI dL_law_1238 ?_
  refine v_iaddI dL_law_1239 ?_
  refine v_sld rfl dL_law_1240 (iI_in (by omega) (by omega) (by omega)) ?_
  refine v_callV dL_law_1241 ml_L_142 hsp hf0 rfl (s_lt hn rfl) rfl rfl (Nat.le_of_ble_eq_true rfl) hdx (show k + 0 ≤ 600000 by omega) (show u + 0 ≤ 7302250 by omega) ⟨Or.inr ⟨law_lvok hn, fun v hv => by cases hv⟩, fun r n1 h1 q => ?_⟩
  obtain ⟨v, rfl, ⟨hn1, fs1, hf1⟩, hsp1⟩ := q
  dsimp only [s_push]
  refine v_aload_n dL_law_1244 rfl ?_
  refine v_aload_no dL_law_1245 rfl ?_
  refine v_iload_n dL_law_1246 rfl ?_
  refine v_iconstI dL_law_1247 ?_
  refine v_iaddI dL_law_1248 ?_
  refine v_sld rfl dL_law_1249 (iI_in (by omega) (by omega) (by omega)) ?_
  refine v_aload_no dL_law_1250 rfl ?_
  refine v_iload_n dL_law_1251 rfl ?_
  refine v_iconstI dL_law_1252 ?_
  refine v_iaddI dL_law_1253 ?_
  refine v_sld rfl dL_law_1254 (iI_in (by omega) (by omega) (by omega)) ?_
  refine v_aload_no dL_law_1255 rfl ?_
  refine v_iload_n dL_law_1256 rfl ?_
  refine v_iconstI dL_law_1257 ?_
  refine v_iaddI dL_law_1258 ?_
  refine v_sld rfl dL_law_1259 (iI_in (by omega) (by omega) (by omega)) ?_
  refine v_callV dL_law_1260 ml_L_146 hsp1 hf1 rfl (s_lt hn1 rfl) rfl rfl (Nat.le_of_ble_eq_true rfl) hdm (show k + 0 + 0 ≤ 600000 by omega) (show u + 0 + 0 ≤ 7302250 by omega) ⟨Or.inl (fun _ _ _ q => q.1), fun r n2 h2 q => ?_⟩
  obtain ⟨rfl, rfl, hI2⟩ := q
  dsimp only [s_push]
  refine v_lcmp_same (tgt := 1724) dL_law_1263 dL_law_1264 (by decide) ?_
  exact next _ _ _ _ hI2 (by omega) (by omega)
set_option maxRecDepth 10000 in
theorem law_case_32 {INV : Nat → (Nat → sE) → Prop} (hIn : ∀ n h, INV n h → 115 ≤ n ∧ ∃ fs, h 0 = .inr (11, fs)) (p32 : ∀ a1 a2 a3 : Int32, PairL m_X11_surest m_X12_surest 0 0 INV [.int a1, .int a2, .int a3]) {b L : Nat} {xs : Nat → Int32} (hL : L ≤ 3584) (j n k u : Nat) (h : Nat → sE) (hI : INV n h) (hj : 7 * (j : Int) + 7 ≤ L) (hk : k ≤ 115 + 3 * j) (hu : u ≤ 178400 + 900 * j) (next : ∀ (n k u : Nat) (h : Nat → sE), INV n h → k ≤ 115 + 3 * (j + 1) → u ≤ 178400 + 900 * (j + 1) → V (m_L, 2048, 600000, 7302250, 0, (fun r _ _ => r = some (.int (iI 1))), s_GL b L xs) k u n h 1724 [(3, .int (iI (7 * (j : Int)))), (2, .ref 77), (1, .ref 0), (0, .retAddr b)] []) : V (m_L, 2048, 600000, 7302250, 0, (fun r _ _ => r = some (.int (iI 1))), s_GL b L xs) k u n h 1269 [(3, .int (iI (7 * (j : Int)))), (2, .ref 77), (1, .ref 0), (0, .retAddr b)] [] := by
  obtain ⟨hn, fs0, hf0⟩ := hIn n h hI
  obtain ⟨dx, dm, hdx, hdm, hsp⟩ := p32 (xs (iI (7 * (j : Int) + 1)).toNatClampNeg) (xs (iI (7 * (j : Int) + 2)).toNatClampNeg) (xs (iI (7 * (j : Int) + 3)).toNatClampNeg) n h hI
  refine v_aload_n dL_law_1269 rfl ?_
  refine v_aload_no dL_law_1270 rfl ?_
  refine v_iload_n dL_law_1271 rfl ?_
  refine v_iconstI dL_law_1272 ?_
  refine v_iaddI dL_law_1273 ?_
  refine v_sld rfl dL_law_1274 (iI_in (by omega) (by omega) (by omega)) ?_
  refine v_aload_no dL_law_1275 rfl ?_
  refine v_iload_n dL_law_1276 rfl ?_
  refine v_iconstI dL_law_1277 ?_
  refine v_iaddI dL_law_1278 ?_
  refine v_sld rfl dL_law_1279 (iI_in (by omega) (by omega) (by omega)) ?_
  refine v_aload_no dL_law_1280 rfl ?_
  refine v_iload_n dL_law_1281 rfl ?_
  refine v_iconstI dL_law_1282 ?_
  refine v_iaddI dL_law_1283 ?_
  refine v_sld rfl dL_law_1284 (iI_in (by omega) (by omega) (by omega)) ?_
  refine v_callV dL_law_1285 ml_L_147 hsp hf0 rfl (s_lt hn rfl) rfl rfl (Nat.le_of_ble_eq_true rfl) hdx (show k + 0 ≤ 600000 by omega) (show u + 0 ≤ 7302250 by omega) ⟨Or.inr ⟨law_lvok hn, fun v hv => by cases hv⟩, fun r n1 h1 q => ?_⟩
  obtain ⟨v, rfl, ⟨hn1, fs1, hf1⟩, hsp1⟩ := q
  dsimp only [s_push]
  refine v_aload_n dL_law_1288 rfl ?_
  refine v_aload_no dL_law_1289 rfl ?_
  refine v_iload_n dL_law_1290 rfl ?_
  refine v_iconstI dL_law_1291 ?_
  refine v_iaddI dL_law_1292 ?_
  refine v_sld rfl dL_law_1293 (iI_in (by omega) (by omega) (by omega)) ?_
  refine v_aload_no dL_law_1294 rfl ?_
  refine v_iload_n dL_law_1295 rfl ?_
  refine v_iconstI dL_law_1296 ?_
  refine v_iaddI dL_law_1297 ?_
  refine v_sld rfl dL_law_1298 (iI_in (by omega) (by omega) (by omega)) ?_
  refine v_aload_no dL_law_1299 rfl ?_
  refine v_iload_n dL_law_1300 rfl ?_
  refine v_iconstI dL_law_1301 ?_
  refine v_iaddI dL_law_1302 ?_
  refine v_sld rfl dL_law_1303 (iI_in (by omega) (by omega) (by omega)) ?_
  refine v_callV dL_law_1304 ml_L_150 hsp1 hf1 rfl (s_lt hn1 rfl) rfl rfl (Nat.le_of_ble_eq_true rfl) hdm (show k + 0 + 0 ≤ 600000 by omega) (show u + 0 + 0 ≤ 7302250 by omega) ⟨Or.inl (fun _ _ _ q => q.1), fun r n2 h2 q => ?_⟩
  obtain ⟨rfl, rfl, hI2⟩ := q
  dsimp only [s_push]
  refine v_lcmp_same (tgt := 1724) dL_law_1307 dL_law_1308 (by decide) ?_
  exact next _ _ _ _ hI2 (by omega) (by omega)
set_option maxRecDepth 10000 in
theorem law_case_33 {INV : Nat → (Nat → sE) → Prop} (hIn : ∀ n h, INV n h → 115 ≤ n ∧ ∃ fs, h 0 = .inr (11, fs)) (p33 : ∀ a1 a2 a3 a4 a5 a6 : Int32, Pair m_X11_steer m_X12_steer 0 0 INV [.int a1, .int a2, .int a3, .int a4, .int a5, .int a6]) {b L : Nat} {xs : Nat → Int32} (hL : L ≤ 3584) (j n k u : Nat) (h : Nat → sE) (hI : INV n h) (hj : 7 * (j : Int) + 7 ≤ L) (hk : k ≤ 115 + 3 * j) (hu : u ≤ 178400 + 900 * j) (next : ∀ (n k u : Nat) (h : Nat → sE), INV n h → k ≤ 115 + 3 * (j + 1) → u ≤ 178400 + 900 * (j + 1) → V (m_L, 2048, 600000, 7302250, 0, (fun r _ _ => r = some (.int (iI 1))), s_GL b L xs) k u n h 1724 [(3, .int (iI (7 * (j : Int)))), (2, .ref 77), (1, .ref 0), (0, .retAddr b)] []) : V (m_L, 2048, 600000, 7302250, 0, (fun r _ _ => r = some (.int (iI 1))), s_GL b L xs) k u n h 1313 [(3, .int (iI (7 * (j : Int)))), (2, .ref 77), (1, .ref 0), (0, .retAddr b)] [] := by
  obtain ⟨hn, fs0, hf0⟩ := hIn n h hI
  obtain ⟨dx, dm, hdx, hdm, hsp⟩ := p33 (xs (iI (7 * (j : Int) + 1)).toNatClampNeg) (xs (iI (7 * (j : Int) + 2)).toNatClampNeg) (xs (iI (7 * (j : Int) + 3)).toNatClampNeg) (xs (iI (7 * (j : Int) + 4)).toNatClampNeg) (xs (iI (7 * (j : Int) + 5)).toNatClampNeg) (xs (iI (7 * (j : Int) + 6)).toNatClampNeg) n h hI
  refine v_aload_n dL_law_1313 rfl ?_
  refine v_aload_no dL_law_1314 rfl ?_
  refine v_iload_n dL_law_1315 rfl ?_
  refine v_iconstI dL_law_1316 ?_
  refine v_iaddI dL_law_1317 ?_
  refine v_sld rfl dL_law_1318 (iI_in (by omega) (by omega) (by omega)) ?_
  refine v_aload_no dL_law_1319 rfl ?_
  refine v_iload_n dL_law_1320 rfl ?_
  refine v_iconstI dL_law_1321 ?_
  refine v_iaddI dL_law_1322 ?_
  refine v_sld rfl dL_law_1323 (iI_in (by omega) (by omega) (by omega)) ?_
  refine v_aload_no dL_law_1324 rfl ?_
  refine v_iload_n dL_law_1325 rfl ?_
  refine v_iconstI dL_law_1326 ?_
  refine v_iaddI dL_law_1327 ?_
  refine v_sld rfl dL_law_1328 (iI_in (by omega) (by omega) (by omega)) ?_
  refine v_aload_no dL_law_1329 rfl ?_
  refine v_iload_n dL_law_1330 rfl ?_
  refine v_iconstI dL_law_1331 ?_
  refine v_iaddI dL_law_1332 ?_
  refine v_sld rfl dL_law_1333 (iI_in (by omega) (by omega) (by omega)) ?_
  refine v_aload_no dL_law_1334 rfl ?_
  refine v_iload_n dL_law_1335 rfl ?_
  refine v_iconstI dL_law_1336 ?_
  refine v_iaddI dL_law_1337 ?_
  refine v_sld rfl dL_law_1338 (iI_in (by omega) (by omega) (by omega)) ?_
  refine v_aload_no dL_law_1339 rfl ?_
  refine v_iload_n dL_law_1340 rfl ?_
  refine v_bipushI dL_law_1341 rfl ?_
  refine v_iaddI dL_law_1343 ?_
  refine v_sld rfl dL_law_1344 (iI_in (by omega) (by omega) (by omega)) ?_
  refine v_callV dL_law_1345 ml_L_151 hsp hf0 rfl (s_lt hn rfl) rfl rfl (Nat.le_of_ble_eq_true rfl) hdx (show k + 0 ≤ 600000 by omega) (show u + 0 ≤ 7302250 by omega) ⟨Or.inr ⟨law_lvok hn, fun v hv => by cases hv⟩, fun r n1 h1 q => ?_⟩
  obtain ⟨v, rfl, ⟨hn1, fs1, hf1⟩, hsp1⟩ := q
  dsimp only [s_push]
  refine v_aload_n dL_law_1348 rfl ?_
  refine v_aload_no dL_law_1349 rfl ?_
  refine v_iload_n dL_law_1350 rfl ?_
  refine v_iconstI dL_law_1351 ?_
  refine v_iaddI dL_law_1352 ?_
  refine v_sld rfl dL_law_1353 (iI_in (by omega) (by omega) (by omega)) ?_
  refine v_aload_no dL_law_1354 rfl ?_
  refine v_iload_n dL_law_1355 rfl ?_
  refine v_iconstI dL_law_1356 ?_
  refine v_iaddI dL_law_1357 ?_
  refine v_sld rfl dL_law_1358 (iI_in (by omega) (by omega) (by omega)) ?_
  refine v_aload_no dL_law_1359 rfl ?_
  refine v_iload_n dL_law_1360 rfl ?_
  refine v_iconstI dL_law_1361 ?_
  refine v_iaddI dL_law_1362 ?_
  refine v_sld rfl dL_law_1363 (iI_in (by omega) (by omega) (by omega)) ?_
  refine v_aload_no dL_law_1364 rfl ?_
  refine v_iload_n dL_law_1365 rfl ?_
  refine v_iconstI dL_law_1366 ?_
  refine v_iaddI dL_law_1367 ?_
  refine v_sld rfl dL_law_1368 (iI_in (by omega) (by omega) (by omega)) ?_
  refine v_aload_no dL_law_1369 rfl ?_
  refine v_iload_n dL_law_1370 rfl ?_
  refine v_iconstI dL_law_1371 ?_
  refine v_iaddI dL_law_1372 ?_
  refine v_sld rfl dL_law_1373 (iI_in (by omega) (by omega) (by omega)) ?_
  refine v_aload_no dL_law_1374 rfl ?_
  refine v_iload_n dL_law_1375 rfl ?_
  refine v_bipushI dL_law_1376 rfl ?_
  refine v_iaddI dL_law_1378 ?_
  refine v_sld rfl dL_law_1379 (iI_in (by omega) (by omega) (by omega)) ?_
  refine v_callV dL_law_1380 ml_L_155 hsp1 hf1 rfl (s_lt hn1 rfl) rfl rfl (Nat.le_of_ble_eq_true rfl) hdm (show k + 0 + 0 ≤ 600000 by omega) (show u + 0 + 0 ≤ 7302250 by omega) ⟨Or.inl (fun _ _ _ q => q.1), fun r n2 h2 q => ?_⟩
  obtain ⟨rfl, rfl, hI2⟩ := q
  dsimp only [s_push]
  refine v_icmp_same (tgt := 1724) dL_law_1383 (by decide) ?_
  exact next _ _ _ _ hI2 (by omega) (by omega)
set_option maxRecDepth 10000 in
theorem law_case_34 {INV : Nat → (Nat → sE) → Prop} (hIn : ∀ n h, INV n h → 115 ≤ n ∧ ∃ fs, h 0 = .inr (11, fs)) (p34 : ∀ a1 a2 a3 : Int32, Pair m_X11_sight m_X12_sight 0 0 INV [.int a1, .int a2, .int a3]) {b L : Nat} {xs : Nat → Int32} (hL : L ≤ 3584) (j n k u : Nat) (h : Nat → sE) (hI : INV n h) (hj : 7 * (j : Int) + 7 ≤ L) (hk : k ≤ 115 + 3 * j) (hu : u ≤ 178400 + 900 * j) (next : ∀ (n k u : Nat) (h : Nat → sE), INV n h → k ≤ 115 + 3 * (j + 1) → u ≤ 178400 + 900 * (j + 1) → V (m_L, 2048, 600000, 7302250, 0, (fun r _ _ => r = some (.int (iI 1))), s_GL b L xs) k u n h 1724 [(3, .int (iI (7 * (j : Int)))), (2, .ref 77), (1, .ref 0), (0, .retAddr b)] []) : V (m_L, 2048, 600000, 7302250, 0, (fun r _ _ => r = some (.int (iI 1))), s_GL b L xs) k u n h 1388 [(3, .int (iI (7 * (j : Int)))), (2, .ref 77), (1, .ref 0), (0, .retAddr b)] [] := by
  obtain ⟨hn, fs0, hf0⟩ := hIn n h hI
  obtain ⟨dx, dm, hdx, hdm, hsp⟩ := p34 (xs (iI (7 * (j : Int) + 1)).toNatClampNeg) (xs (iI (7 * (j : Int) + 2)).toNatClampNeg) (xs (iI (7 * (j : Int) + 3)).toNatClampNeg) n h hI
  refine v_aload_n dL_law_1388 rfl ?_
  refine v_aload_no dL_law_1389 rfl ?_
  refine v_iload_n dL_law_1390 rfl ?_
  refine v_iconstI dL_law_1391 ?_
  refine v_iaddI dL_law_1392 ?_
  refine v_sld rfl dL_law_1393 (iI_in (by omega) (by omega) (by omega)) ?_
  refine v_aload_no dL_law_1394 rfl ?_
  refine v_iload_n dL_law_1395 rfl ?_
  refine v_iconstI dL_law_1396 ?_
  refine v_iaddI dL_law_1397 ?_
  refine v_sld rfl dL_law_1398 (iI_in (by omega) (by omega) (by omega)) ?_
  refine v_aload_no dL_law_1399 rfl ?_
  refine v_iload_n dL_law_1400 rfl ?_
  refine v_iconstI dL_law_1401 ?_
  refine v_iaddI dL_law_1402 ?_
  refine v_sld rfl dL_law_1403 (iI_in (by omega) (by omega) (by omega)) ?_
  refine v_callV dL_law_1404 ml_L_156 hsp hf0 rfl (s_lt hn rfl) rfl rfl (Nat.le_of_ble_eq_true rfl) hdx (show k + 0 ≤ 600000 by omega) (show u + 0 ≤ 7302250 by omega) ⟨Or.inr ⟨law_lvok hn, fun v hv => by cases hv⟩, fun r n1 h1 q => ?_⟩
  obtain ⟨v, rfl, ⟨hn1, fs1, hf1⟩, hsp1⟩ := q
  dsimp only [s_push]
  refine v_aload_n dL_law_1407 rfl ?_
  refine v_aload_no dL_law_1408 rfl ?_
  refine v_iload_n dL_law_1409 rfl ?_
  refine v_iconstI dL_law_1410 ?_
  refine v_iaddI dL_law_1411 ?_
  refine v_sld rfl dL_law_1412 (iI_in (by omega) (by omega) (by omega)) ?_
  refine v_aload_no dL_law_1413 rfl ?_
  refine v_iload_n dL_law_1414 rfl ?_
  refine v_iconstI dL_law_1415 ?_
  refine v_iaddI dL_law_1416 ?_
  refine v_sld rfl dL_law_1417 (iI_in (by omega) (by omega) (by omega)) ?_
  refine v_aload_no dL_law_1418 rfl ?_
  refine v_iload_n dL_law_1419 rfl ?_
  refine v_iconstI dL_law_1420 ?_
  refine v_iaddI dL_law_1421 ?_
  refine v_sld rfl dL_law_1422 (iI_in (by omega) (by omega) (by omega)) ?_
  refine v_callV dL_law_1423 ml_L_159 hsp1 hf1 rfl (s_lt hn1 rfl) rfl rfl (Nat.le_of_ble_eq_true rfl) hdm (show k + 0 + 0 ≤ 600000 by omega) (show u + 0 + 0 ≤ 7302250 by omega) ⟨Or.inl (fun _ _ _ q => q.1), fun r n2 h2 q => ?_⟩
  obtain ⟨rfl, rfl, hI2⟩ := q
  dsimp only [s_push]
  refine v_icmp_same (tgt := 1724) dL_law_1426 (by decide) ?_
  exact next _ _ _ _ hI2 (by omega) (by omega)
set_option maxRecDepth 10000 in
theorem law_case_35 {INV : Nat → (Nat → sE) → Prop} (hIn : ∀ n h, INV n h → 115 ≤ n ∧ ∃ fs, h 0 = .inr (11, fs)) (p35 : Pair m_X11_forget m_X12_forget 0 0 INV []) {b L : Nat} {xs : Nat → Int32} (hL : L ≤ 3584) (j n k u : Nat) (h : Nat → sE) (hI : INV n h) (hj : 7 * (j : Int) + 7 ≤ L) (hk : k ≤ 115 + 3 * j) (hu : u ≤ 178400 + 900 * j) (next : ∀ (n k u : Nat) (h : Nat → sE), INV n h → k ≤ 115 + 3 * (j + 1) → u ≤ 178400 + 900 * (j + 1) → V (m_L, 2048, 600000, 7302250, 0, (fun r _ _ => r = some (.int (iI 1))), s_GL b L xs) k u n h 1724 [(3, .int (iI (7 * (j : Int)))), (2, .ref 77), (1, .ref 0), (0, .retAddr b)] []) : V (m_L, 2048, 600000, 7302250, 0, (fun r _ _ => r = some (.int (iI 1))), s_GL b L xs) k u n h 1431 [(3, .int (iI (7 * (j : Int)))), (2, .ref 77), (1, .ref 0), (0, .retAddr b)] [] := by
  obtain ⟨hn, fs0, hf0⟩ := hIn n h hI
  obtain ⟨dx, dm, hdx, hdm, hsp⟩ := p35 n h hI
  refine v_aload_n dL_law_1431 rfl ?_
  refine v_callV dL_law_1432 ml_L_160 hsp hf0 rfl (s_lt hn rfl) rfl rfl (Nat.le_of_ble_eq_true rfl) hdx (show k + 0 ≤ 600000 by omega) (show u + 0 ≤ 7302250 by omega) ⟨Or.inr ⟨law_lvok hn, fun v hv => by cases hv⟩, fun r n1 h1 q => ?_⟩
  obtain ⟨v, rfl, ⟨hn1, fs1, hf1⟩, hsp1⟩ := q
  dsimp only [s_push]
  refine v_aload_n dL_law_1435 rfl ?_
  refine v_callV dL_law_1436 ml_L_163 hsp1 hf1 rfl (s_lt hn1 rfl) rfl rfl (Nat.le_of_ble_eq_true rfl) hdm (show k + 0 + 0 ≤ 600000 by omega) (show u + 0 + 0 ≤ 7302250 by omega) ⟨Or.inl (fun _ _ _ q => q.1), fun r n2 h2 q => ?_⟩
  obtain ⟨rfl, rfl, hI2⟩ := q
  dsimp only [s_push]
  refine v_icmp_same (tgt := 1724) dL_law_1439 (by decide) ?_
  exact next _ _ _ _ hI2 (by omega) (by omega)
set_option maxRecDepth 10000 in
theorem law_case_36 {INV : Nat → (Nat → sE) → Prop} (hIn : ∀ n h, INV n h → 115 ≤ n ∧ ∃ fs, h 0 = .inr (11, fs)) (p36 : ∀ a1 a2 a3 a4 : Int32, Pair m_X11_stray m_X12_stray 0 0 INV [.int a1, .int a2, .int a3, .int a4]) {b L : Nat} {xs : Nat → Int32} (hL : L ≤ 3584) (j n k u : Nat) (h : Nat → sE) (hI : INV n h) (hj : 7 * (j : Int) + 7 ≤ L) (hk : k ≤ 115 + 3 * j) (hu : u ≤ 178400 + 900 * j) (next : ∀ (n k u : Nat) (h : Nat → sE), INV n h → k ≤ 115 + 3 * (j + 1) → u ≤ 178400 + 900 * (j + 1) → V (m_L, 2048, 600000, 7302250, 0, (fun r _ _ => r = some (.int (iI 1))), s_GL b L xs) k u n h 1724 [(3, .int (iI (7 * (j : Int)))), (2, .ref 77), (1, .ref 0), (0, .retAddr b)] []) : V (m_L, 2048, 600000, 7302250, 0, (fun r _ _ => r = some (.int (iI 1))), s_GL b L xs) k u n h 1444 [(3, .int (iI (7 * (j : Int)))), (2, .ref 77), (1, .ref 0), (0, .retAddr b)] [] := by
  obtain ⟨hn, fs0, hf0⟩ := hIn n h hI
  obtain ⟨dx, dm, hdx, hdm, hsp⟩ := p36 (xs (iI (7 * (j : Int) + 1)).toNatClampNeg) (xs (iI (7 * (j : Int) + 2)).toNatClampNeg) (xs (iI (7 * (j : Int) + 3)).toNatClampNeg) (xs (iI (7 * (j : Int) + 4)).toNatClampNeg) n h hI
  refine v_aload_n dL_law_1444 rfl ?_
  refine v_aload_no dL_law_1445 rfl ?_
  refine v_iload_n dL_law_1446 rfl ?_
  refine v_iconstI dL_law_1447 ?_
  refine v_iaddI dL_law_1448 ?_
  refine v_sld rfl dL_law_1449 (iI_in (by omega) (by omega) (by omega)) ?_
  refine v_aload_no dL_law_1450 rfl ?_
  refine v_iload_n dL_law_1451 rfl ?_
  refine v_iconstI dL_law_1452 ?_
  refine v_iaddI dL_law_1453 ?_
  refine v_sld rfl dL_law_1454 (iI_in (by omega) (by omega) (by omega)) ?_
  refine v_aload_no dL_law_1455 rfl ?_
  refine v_iload_n dL_law_1456 rfl ?_
  refine v_iconstI dL_law_1457 ?_
  refine v_iaddI dL_law_1458 ?_
  refine v_sld rfl dL_law_1459 (iI_in (by omega) (by omega) (by omega)) ?_
  refine v_aload_no dL_law_1460 rfl ?_
  refine v_iload_n dL_law_1461 rfl ?_
  refine v_iconstI dL_law_1462 ?_
  refine v_iaddI dL_law_1463 ?_
  refine v_sld rfl dL_law_1464 (iI_in (by omega) (by omega) (by omega)) ?_
  refine v_callV dL_law_1465 ml_L_164 hsp hf0 rfl (s_lt hn rfl) rfl rfl (Nat.le_of_ble_eq_true rfl) hdx (show k + 0 ≤ 600000 by omega) (show u + 0 ≤ 7302250 by omega) ⟨Or.inr ⟨law_lvok hn, fun v hv => by cases hv⟩, fun r n1 h1 q => ?_⟩
  obtain ⟨v, rfl, ⟨hn1, fs1, hf1⟩, hsp1⟩ := q
  dsimp only [s_push]
  refine v_aload_n dL_law_1468 rfl ?_
  refine v_aload_no dL_law_1469 rfl ?_
  refine v_iload_n dL_law_1470 rfl ?_
  refine v_iconstI dL_law_1471 ?_
  refine v_iaddI dL_law_1472 ?_
  refine v_sld rfl dL_law_1473 (iI_in (by omega) (by omega) (by omega)) ?_
  refine v_aload_no dL_law_1474 rfl ?_
  refine v_iload_n dL_law_1475 rfl ?_
  refine v_iconstI dL_law_1476 ?_
  refine v_iaddI dL_law_1477 ?_
  refine v_sld rfl dL_law_1478 (iI_in (by omega) (by omega) (by omega)) ?_
  refine v_aload_no dL_law_1479 rfl ?_
  refine v_iload_n dL_law_1480 rfl ?_
  refine v_iconstI dL_law_1481 ?_
  refine v_iaddI dL_law_1482 ?_
  refine v_sld rfl dL_law_1483 (iI_in (by omega) (by omega) (by omega)) ?_
  refine v_aload_no dL_law_1484 rfl ?_
  refine v_iload_n dL_law_1485 rfl ?_
  refine v_iconstI dL_law_1486 ?_
  refine v_iaddI dL_law_1487 ?_
  refine v_sld rfl dL_law_1488 (iI_in (by omega) (by omega) (by omega)) ?_
  refine v_callV dL_law_1489 ml_L_168 hsp1 hf1 rfl (s_lt hn1 rfl) rfl rfl (Nat.le_of_ble_eq_true rfl) hdm (show k + 0 + 0 ≤ 600000 by omega) (show u + 0 + 0 ≤ 7302250 by omega) ⟨Or.inl (fun _ _ _ q => q.1), fun r n2 h2 q => ?_⟩
  obtain ⟨rfl, rfl, hI2⟩ := q
  dsimp only [s_push]
  refine v_icmp_same (tgt := 1724) dL_law_1492 (by decide) ?_
  exact next _ _ _ _ hI2 (by omega) (by omega)
set_option maxRecDepth 10000 in
theorem law_case_37 {INV : Nat → (Nat → sE) → Prop} (hIn : ∀ n h, INV n h → 115 ≤ n ∧ ∃ fs, h 0 = .inr (11, fs)) (p37 : ∀ a1 : Int32, Pair m_X11_rustled m_X12_rustled 0 0 INV [.int a1]) {b L : Nat} {xs : Nat → Int32} (hL : L ≤ 3584) (j n k u : Nat) (h : Nat → sE) (hI : INV n h) (hj : 7 * (j : Int) + 7 ≤ L) (hk : k ≤ 115 + 3 * j) (hu : u ≤ 178400 + 900 * j) (next : ∀ (n k u : Nat) (h : Nat → sE), INV n h → k ≤ 115 + 3 * (j + 1) → u ≤ 178400 + 900 * (j + 1) → V (m_L, 2048, 600000, 7302250, 0, (fun r _ _ => r = some (.int (iI 1))), s_GL b L xs) k u n h 1724 [(3, .int (iI (7 * (j : Int)))), (2, .ref 77), (1, .ref 0), (0, .retAddr b)] []) : V (m_L, 2048, 600000, 7302250, 0, (fun r _ _ => r = some (.int (iI 1))), s_GL b L xs) k u n h 1497 [(3, .int (iI (7 * (j : Int)))), (2, .ref 77), (1, .ref 0), (0, .retAddr b)] [] := by
  obtain ⟨hn, fs0, hf0⟩ := hIn n h hI
  obtain ⟨dx, dm, hdx, hdm, hsp⟩ := p37 (xs (iI (7 * (j : Int) + 1)).toNatClampNeg) n h hI
  refine v_aload_n dL_law_1497 rfl ?_
  refine v_aload_no dL_law_1498 rfl ?_
  refine v_iload_n dL_law_1499 rfl ?_
  refine v_iconstI dL_law_1500 ?_
  refine v_iaddI dL_law_1501 ?_
  refine v_sld rfl dL_law_1502 (iI_in (by omega) (by omega) (by omega)) ?_
  refine v_callV dL_law_1503 ml_L_169 hsp hf0 rfl (s_lt hn rfl) rfl rfl (Nat.le_of_ble_eq_true rfl) hdx (show k + 0 ≤ 600000 by omega) (show u + 0 ≤ 7302250 by omega) ⟨Or.inr ⟨law_lvok hn, fun v hv => by cases hv⟩, fun r n1 h1 q => ?_⟩
  obtain ⟨v, rfl, ⟨hn1, fs1, hf1⟩, hsp1⟩ := q
  dsimp only [s_push]
  refine v_aload_n dL_law_1506 rfl ?_
  refine v_aload_no dL_law_1507 rfl ?_
  refine v_iload_n dL_law_1508 rfl ?_
  refine v_iconstI dL_law_1509 ?_
  refine v_iaddI dL_law_1510 ?_
  refine v_sld rfl dL_law_1511 (iI_in (by omega) (by omega) (by omega)) ?_
  refine v_callV dL_law_1512 ml_L_172 hsp1 hf1 rfl (s_lt hn1 rfl) rfl rfl (Nat.le_of_ble_eq_true rfl) hdm (show k + 0 + 0 ≤ 600000 by omega) (show u + 0 + 0 ≤ 7302250 by omega) ⟨Or.inl (fun _ _ _ q => q.1), fun r n2 h2 q => ?_⟩
  obtain ⟨rfl, rfl, hI2⟩ := q
  dsimp only [s_push]
  refine v_icmp_same (tgt := 1724) dL_law_1515 (by decide) ?_
  exact next _ _ _ _ hI2 (by omega) (by omega)
set_option maxRecDepth 10000 in
theorem law_case_38 {INV : Nat → (Nat → sE) → Prop} (hIn : ∀ n h, INV n h → 115 ≤ n ∧ ∃ fs, h 0 = .inr (11, fs)) (p38 : Pair m_X11_men m_X12_men 0 0 INV []) {b L : Nat} {xs : Nat → Int32} (hL : L ≤ 3584) (j n k u : Nat) (h : Nat → sE) (hI : INV n h) (hj : 7 * (j : Int) + 7 ≤ L) (hk : k ≤ 115 + 3 * j) (hu : u ≤ 178400 + 900 * j) (next : ∀ (n k u : Nat) (h : Nat → sE), INV n h → k ≤ 115 + 3 * (j + 1) → u ≤ 178400 + 900 * (j + 1) → V (m_L, 2048, 600000, 7302250, 0, (fun r _ _ => r = some (.int (iI 1))), s_GL b L xs) k u n h 1724 [(3, .int (iI (7 * (j : Int)))), (2, .ref 77), (1, .ref 0), (0, .retAddr b)] []) : V (m_L, 2048, 600000, 7302250, 0, (fun r _ _ => r = some (.int (iI 1))), s_GL b L xs) k u n h 1520 [(3, .int (iI (7 * (j : Int)))), (2, .ref 77), (1, .ref 0), (0, .retAddr b)] [] := by
  obtain ⟨hn, fs0, hf0⟩ := hIn n h hI
  obtain ⟨dx, dm, hdx, hdm, hsp⟩ := p38 n h hI
  refine v_aload_n dL_law_1520 rfl ?_
  refine v_callV dL_law_1521 ml_L_173 hsp hf0 rfl (s_lt hn rfl) rfl rfl (Nat.le_of_ble_eq_true rfl) hdx (show k + 0 ≤ 600000 by omega) (show u + 0 ≤ 7302250 by omega) ⟨Or.inr ⟨law_lvok hn, fun v hv => by cases hv⟩, fun r n1 h1 q => ?_⟩
  obtain ⟨v, rfl, ⟨hn1, fs1, hf1⟩, hsp1⟩ := q
  dsimp only [s_push]
  refine v_aload_n dL_law_1524 rfl ?_
  refine v_callV dL_law_1525 ml_L_176 hsp1 hf1 rfl (s_lt hn1 rfl) rfl rfl (Nat.le_of_ble_eq_true rfl) hdm (show k + 0 + 0 ≤ 600000 by omega) (show u + 0 + 0 ≤ 7302250 by omega) ⟨Or.inl (fun _ _ _ q => q.1), fun r n2 h2 q => ?_⟩
  obtain ⟨rfl, rfl, hI2⟩ := q
  dsimp only [s_push]
  refine v_icmp_same (tgt := 1724) dL_law_1528 (by decide) ?_
  exact next _ _ _ _ hI2 (by omega) (by omega)
set_option maxRecDepth 10000 in
theorem law_case_39 {INV : Nat → (Nat → sE) → Prop} (hIn : ∀ n h, INV n h → 115 ≤ n ∧ ∃ fs, h 0 = .inr (11, fs)) (p39 : ∀ a1 a2 a3 a4 : Int32, Pair m_X11_duel m_X12_duel 0 0 INV [.int a1, .int a2, .int a3, .int a4]) {b L : Nat} {xs : Nat → Int32} (hL : L ≤ 3584) (j n k u : Nat) (h : Nat → sE) (hI : INV n h) (hj : 7 * (j : Int) + 7 ≤ L) (hk : k ≤ 115 + 3 * j) (hu : u ≤ 178400 + 900 * j) (next : ∀ (n k u : Nat) (h : Nat → sE), INV n h → k ≤ 115 + 3 * (j + 1) → u ≤ 178400 + 900 * (j + 1) → V (m_L, 2048, 600000, 7302250, 0, (fun r _ _ => r = some (.int (iI 1))), s_GL b L xs) k u n h 1724 [(3, .int (iI (7 * (j : Int)))), (2, .ref 77), (1, .ref 0), (0, .retAddr b)] []) : V (m_L, 2048, 600000, 7302250, 0, (fun r _ _ => r = some (.int (iI 1))), s_GL b L xs) k u n h 1533 [(3, .int (iI (7 * (j : Int)))), (2, .ref 77), (1, .ref 0), (0, .retAddr b)] [] := by
  obtain ⟨hn, fs0, hf0⟩ := hIn n h hI
  obtain ⟨dx, dm, hdx, hdm, hsp⟩ := p39 (xs (iI (7 * (j : Int) + 1)).toNatClampNeg) (xs (iI (7 * (j : Int) + 2)).toNatClampNeg) (xs (iI (7 * (j : Int) + 3)).toNatClampNeg) (xs (iI (7 * (j : Int) + 4)).toNatClampNeg) n h hI
  refine v_aload_n dL_law_1533 rfl ?_
  refine v_aload_no dL_law_1534 rfl ?_
  refine v_iload_n dL_law_1535 rfl ?_
  refine v_iconstI dL_law_1536 ?_
  refine v_iaddI dL_law_1537 ?_
  refine v_sld rfl dL_law_1538 (iI_in (by omega) (by omega) (by omega)) ?_
  refine v_aload_no dL_law_1539 rfl ?_
  refine v_iload_n dL_law_1540 rfl ?_
  refine v_iconstI dL_law_1541 ?_
  refine v_iaddI dL_law_1542 ?_
  refine v_sld rfl dL_law_1543 (iI_in (by omega) (by omega) (by omega)) ?_
  refine v_aload_no dL_law_1544 rfl ?_
  refine v_iload_n dL_law_1545 rfl ?_
  refine v_iconstI dL_law_1546 ?_
  refine v_iaddI dL_law_1547 ?_
  refine v_sld rfl dL_law_1548 (iI_in (by omega) (by omega) (by omega)) ?_
  refine v_aload_no dL_law_1549 rfl ?_
  refine v_iload_n dL_law_1550 rfl ?_
  refine v_iconstI dL_law_1551 ?_
  refine v_iaddI dL_law_1552 ?_
  refine v_sld rfl dL_law_1553 (iI_in (by omega) (by omega) (by omega)) ?_
  refine v_callV dL_law_1554 ml_L_177 hsp hf0 rfl (s_lt hn rfl) rfl rfl (Nat.le_of_ble_eq_true rfl) hdx (show k + 0 ≤ 600000 by omega) (show u + 0 ≤ 7302250 by omega) ⟨Or.inr ⟨law_lvok hn, fun v hv => by cases hv⟩, fun r n1 h1 q => ?_⟩
  obtain ⟨v, rfl, ⟨hn1, fs1, hf1⟩, hsp1⟩ := q
  dsimp only [s_push]
  refine v_aload_n dL_law_1557 rfl ?_
  refine v_aload_no dL_law_1558 rfl ?_
  refine v_iload_n dL_law_1559 rfl ?_
  refine v_iconstI dL_law_1560 ?_
  refine v_iaddI dL_law_1561 ?_
  refine v_sld rfl dL_law_1562 (iI_in (by omega) (by omega) (by omega)) ?_
  refine v_aload_no dL_law_1563 rfl ?_
  refine v_iload_n dL_law_1564 rfl ?_
  refine v_iconstI dL_law_1565 ?_
  refine v_iaddI dL_law_1566 ?_
  refine v_sld rfl dL_law_1567 (iI_in (by omega) (by omega) (by omega)) ?_
  refine v_aload_no dL_law_1568 rfl ?_
  refine v_iload_n dL_law_1569 rfl ?_
  refine v_iconstI dL_law_1570 ?_
  refine v_iaddI dL_law_1571 ?_
  refine v_sld rfl dL_law_1572 (iI_in (by omega) (by omega) (by omega)) ?_
  refine v_aload_no dL_law_1573 rfl ?_
  refine v_iload_n dL_law_1574 rfl ?_
  refine v_iconstI dL_law_1575 ?_
  refine v_iaddI dL_law_1576 ?_
  refine v_sld rfl dL_law_1577 (iI_in (by omega) (by omega) (by omega)) ?_
  refine v_callV dL_law_1578 ml_L_180 hsp1 hf1 rfl (s_lt hn1 rfl) rfl rfl (Nat.le_of_ble_eq_true rfl) hdm (show k + 0 + 0 ≤ 600000 by omega) (show u + 0 + 0 ≤ 7302250 by omega) ⟨Or.inl (fun _ _ _ q => q.1), fun r n2 h2 q => ?_⟩
  obtain ⟨rfl, rfl, hI2⟩ := q
  dsimp only [s_push]
  refine v_icmp_same (tgt := 1724) dL_law_1581 (by decide) ?_
  exact next _ _ _ _ hI2 (by omega) (by omega)
set_option maxRecDepth 10000 in
theorem law_case_40 {INV : Nat → (Nat → sE) → Prop} (hIn : ∀ n h, INV n h → 115 ≤ n ∧ ∃ fs, h 0 = .inr (11, fs)) (p40 : ∀ a1 a2 : Int32, Pair m_X11_summer m_X12_summer 0 0 INV [.int a1, .int a2]) {b L : Nat} {xs : Nat → Int32} (hL : L ≤ 3584) (j n k u : Nat) (h : Nat → sE) (hI : INV n h) (hj : 7 * (j : Int) + 7 ≤ L) (hk : k ≤ 115 + 3 * j) (hu : u ≤ 178400 + 900 * j) (next : ∀ (n k u : Nat) (h : Nat → sE), INV n h → k ≤ 115 + 3 * (j + 1) → u ≤ 178400 + 900 * (j + 1) → V (m_L, 2048, 600000, 7302250, 0, (fun r _ _ => r = some (.int (iI 1))), s_GL b L xs) k u n h 1724 [(3, .int (iI (7 * (j : Int)))), (2, .ref 77), (1, .ref 0), (0, .retAddr b)] []) : V (m_L, 2048, 600000, 7302250, 0, (fun r _ _ => r = some (.int (iI 1))), s_GL b L xs) k u n h 1586 [(3, .int (iI (7 * (j : Int)))), (2, .ref 77), (1, .ref 0), (0, .retAddr b)] [] := by
  obtain ⟨hn, fs0, hf0⟩ := hIn n h hI
  obtain ⟨dx, dm, hdx, hdm, hsp⟩ := p40 (xs (iI (7 * (j : Int) + 1)).toNatClampNeg) (xs (iI (7 * (j : Int) + 2)).toNatClampNeg) n h hI
  refine v_aload_n dL_law_1586 rfl ?_
  refine v_aload_no dL_law_1587 rfl ?_
  refine v_iload_n dL_law_1588 rfl ?_
  refine v_iconstI dL_law_1589 ?_
  refine v_iaddI dL_law_1590 ?_
  refine v_sld rfl dL_law_1591 (iI_in (by omega) (by omega) (by omega)) ?_
  refine v_aload_no dL_law_1592 rfl ?_
  refine v_iload_n dL_law_1593 rfl ?_
  refine v_iconstI dL_law_1594 ?_
  refine v_iaddI dL_law_1595 ?_
  refine v_sld rfl dL_law_1596 (iI_in (by omega) (by omega) (by omega)) ?_
  refine v_callV dL_law_1597 ml_L_181 hsp hf0 rfl (s_lt hn rfl) rfl rfl (Nat.le_of_ble_eq_true rfl) hdx (show k + 0 ≤ 600000 by omega) (show u + 0 ≤ 7302250 by omega) ⟨Or.inr ⟨law_lvok hn, fun v hv => by cases hv⟩, fun r n1 h1 q => ?_⟩
  obtain ⟨v, rfl, ⟨hn1, fs1, hf1⟩, hsp1⟩ := q
  dsimp only [s_push]
  refine v_aload_n dL_law_1600 rfl ?_
  refine v_aload_no dL_law_1601 rfl ?_
  refine v_iload_n dL_law_1602 rfl ?_
  refine v_iconstI dL_law_1603 ?_
  refine v_iaddI dL_law_1604 ?_
  refine v_sld rfl dL_law_1605 (iI_in (by omega) (by omega) (by omega)) ?_
  refine v_aload_no dL_law_1606 rfl ?_
  refine v_iload_n dL_law_1607 rfl ?_
  refine v_iconstI dL_law_1608 ?_
  refine v_iaddI dL_law_1609 ?_
  refine v_sld rfl dL_law_1610 (iI_in (by omega) (by omega) (by omega)) ?_
  refine v_callV dL_law_1611 ml_L_184 hsp1 hf1 rfl (s_lt hn1 rfl) rfl rfl (Nat.le_of_ble_eq_true rfl) hdm (show k + 0 + 0 ≤ 600000 by omega) (show u + 0 + 0 ≤ 7302250 by omega) ⟨Or.inl (fun _ _ _ q => q.1), fun r n2 h2 q => ?_⟩
  obtain ⟨rfl, rfl, hI2⟩ := q
  dsimp only [s_push]
  refine v_icmp_same (tgt := 1724) dL_law_1614 (by decide) ?_
  exact next _ _ _ _ hI2 (by omega) (by omega)
set_option maxRecDepth 10000 in
theorem law_case_41 {INV : Nat → (Nat → sE) → Prop} (hIn : ∀ n h, INV n h → 115 ≤ n ∧ ∃ fs, h 0 = .inr (11, fs)) (p41 : ∀ a1 : Int32, Pair m_X11_drawn m_X12_drawn 0 0 INV [.int a1]) {b L : Nat} {xs : Nat → Int32} (hL : L ≤ 3584) (j n k u : Nat) (h : Nat → sE) (hI : INV n h) (hj : 7 * (j : Int) + 7 ≤ L) (hk : k ≤ 115 + 3 * j) (hu : u ≤ 178400 + 900 * j) (next : ∀ (n k u : Nat) (h : Nat → sE), INV n h → k ≤ 115 + 3 * (j + 1) → u ≤ 178400 + 900 * (j + 1) → V (m_L, 2048, 600000, 7302250, 0, (fun r _ _ => r = some (.int (iI 1))), s_GL b L xs) k u n h 1724 [(3, .int (iI (7 * (j : Int)))), (2, .ref 77), (1, .ref 0), (0, .retAddr b)] []) : V (m_L, 2048, 600000, 7302250, 0, (fun r _ _ => r = some (.int (iI 1))), s_GL b L xs) k u n h 1619 [(3, .int (iI (7 * (j : Int)))), (2, .ref 77), (1, .ref 0), (0, .retAddr b)] [] := by
  obtain ⟨hn, fs0, hf0⟩ := hIn n h hI
  obtain ⟨dx, dm, hdx, hdm, hsp⟩ := p41 (xs (iI (7 * (j : Int) + 1)).toNatClampNeg) n h hI
  refine v_aload_n dL_law_1619 rfl ?_
  refine v_aload_no dL_law_1620 rfl ?_
  refine v_iload_n dL_law_1621 rfl ?_
  refine v_iconstI dL_law_1622 ?_
  refine v_iaddI dL_law_1623 ?_
  refine v_sld rfl dL_law_1624 (iI_in (by omega) (by omega) (by omega)) ?_
  refine v_callV dL_law_1625 ml_L_185 hsp hf0 rfl (s_lt hn rfl) rfl rfl (Nat.le_of_ble_eq_true rfl) hdx (show k + 0 ≤ 600000 by omega) (show u + 0 ≤ 7302250 by omega) ⟨Or.inr ⟨law_lvok hn, fun v hv => by cases hv⟩, fun r n1 h1 q => ?_⟩
  obtain ⟨v, rfl, ⟨hn1, fs1, hf1⟩, hsp1⟩ := q
  dsimp only [s_push]
  refine v_aload_n dL_law_1628 rfl ?_
  refine v_aload_no dL_law_1629 rfl ?_
  refine v_iload_n dL_law_1630 rfl ?_
  refine v_iconstI dL_law_1631 ?_
  refine v_iaddI dL_law_1632 ?_
  refine v_sld rfl dL_law_1633 (iI_in (by omega) (by omega) (by omega)) ?_
  refine v_callV dL_law_1634 ml_L_188 hsp1 hf1 rfl (s_lt hn1 rfl) rfl rfl (Nat.le_of_ble_eq_true rfl) hdm (show k + 0 + 0 ≤ 600000 by omega) (show u + 0 + 0 ≤ 7302250 by omega) ⟨Or.inl (fun _ _ _ q => q.1), fun r n2 h2 q => ?_⟩
  obtain ⟨rfl, rfl, hI2⟩ := q
  dsimp only [s_push]
  refine v_icmp_same (tgt := 1724) dL_law_1637 (by decide) ?_
  exact next _ _ _ _ hI2 (by omega) (by omega)
set_option maxRecDepth 10000 in
theorem law_case_42 {INV : Nat → (Nat → sE) → Prop} (hIn : ∀ n h, INV n h → 115 ≤ n ∧ ∃ fs, h 0 = .inr (11, fs)) (p42 : ∀ a1 : Int32, Pair m_X11_image m_X12_image 0 0 INV [.int a1]) {b L : Nat} {xs : Nat → Int32} (hL : L ≤ 3584) (j n k u : Nat) (h : Nat → sE) (hI : INV n h) (hj : 7 * (j : Int) + 7 ≤ L) (hk : k ≤ 115 + 3 * j) (hu : u ≤ 178400 + 900 * j) (next : ∀ (n k u : Nat) (h : Nat → sE), INV n h → k ≤ 115 + 3 * (j + 1) → u ≤ 178400 + 900 * (j + 1) → V (m_L, 2048, 600000, 7302250, 0, (fun r _ _ => r = some (.int (iI 1))), s_GL b L xs) k u n h 1724 [(3, .int (iI (7 * (j : Int)))), (2, .ref 77), (1, .ref 0), (0, .retAddr b)] []) : V (m_L, 2048, 600000, 7302250, 0, (fun r _ _ => r = some (.int (iI 1))), s_GL b L xs) k u n h 1642 [(3, .int (iI (7 * (j : Int)))), (2, .ref 77), (1, .ref 0), (0, .retAddr b)] [] := by
  obtain ⟨hn, fs0, hf0⟩ := hIn n h hI
  obtain ⟨dx, dm, hdx, hdm, hsp⟩ := p42 (xs (iI (7 * (j : Int) + 1)).toNatClampNeg) n h hI
  refine v_aload_n dL_law_1642 rfl ?_
  refine v_aload_no dL_law_1643 rfl ?_
  refine v_iload_n dL_law_1644 rfl ?_
  refine v_iconstI dL_law_1645 ?_
  refine v_iaddI dL_law_1646 ?_
  refine v_sld rfl dL_law_1647 (iI_in (by omega) (by omega) (by omega)) ?_
  refine v_callV dL_law_1648 ml_L_189 hsp hf0 rfl (s_lt hn rfl) rfl rfl (Nat.le_of_ble_eq_true rfl) hdx (show k + 0 ≤ 600000 by omega) (show u + 0 ≤ 7302250 by omega) ⟨Or.inr ⟨law_lvok hn, fun v hv => by cases hv⟩, fun r n1 h1 q => ?_⟩
  obtain ⟨v, rfl, ⟨hn1, fs1, hf1⟩, hsp1⟩ := q
  dsimp only [s_push]
  refine v_aload_n dL_law_1651 rfl ?_
  refine v_aload_no dL_law_1652 rfl ?_
  refine v_iload_n dL_law_1653 rfl ?_
  refine v_iconstI dL_law_1654 ?_
  refine v_iaddI dL_law_1655 ?_
  refine v_sld rfl dL_law_1656 (iI_in (by omega) (by omega) (by omega)) ?_
  refine v_callV dL_law_1657 ml_L_192 hsp1 hf1 rfl (s_lt hn1 rfl) rfl rfl (Nat.le_of_ble_eq_true rfl) hdm (show k + 0 + 0 ≤ 600000 by omega) (show u + 0 + 0 ≤ 7302250 by omega) ⟨Or.inl (fun _ _ _ q => q.1), fun r n2 h2 q => ?_⟩
  obtain ⟨rfl, rfl, hI2⟩ := q
  dsimp only [s_push]
  refine v_icmp_same (tgt := 1724) dL_law_1660 (by decide) ?_
  exact next _ _ _ _ hI2 (by omega) (by omega)
set_option maxRecDepth 10000 in
theorem law_case_43 {INV : Nat → (Nat → sE) → Prop} (hIn : ∀ n h, INV n h → 115 ≤ n ∧ ∃ fs, h 0 = .inr (11, fs)) (p43 : ∀ a1 : Int32, Pair m_X11_back m_X12_back 0 0 INV [.int a1]) {b L : Nat} {xs : Nat → Int32} (hL : L ≤ 3584) (j n k u : Nat) (h : Nat → sE) (hI : INV n h) (hj : 7 * (j : Int) + 7 ≤ L) (hk : k ≤ 115 + 3 * j) (hu : u ≤ 178400 + 900 * j) (next : ∀ (n k u : Nat) (h : Nat → sE), INV n h → k ≤ 115 + 3 * (j + 1) → u ≤ 178400 + 900 * (j + 1) → V (m_L, 2048, 600000, 7302250, 0, (fun r _ _ => r = some (.int (iI 1))), s_GL b L xs) k u n h 1724 [(3, .int (iI (7 * (j : Int)))), (2, .ref 77), (1, .ref 0), (0, .retAddr b)] []) : V (m_L, 2048, 600000, 7302250, 0, (fun r _ _ => r = some (.int (iI 1))), s_GL b L xs) k u n h 1665 [(3, .int (iI (7 * (j : Int)))), (2, .ref 77), (1, .ref 0), (0, .retAddr b)] [] := by
  obtain ⟨hn, fs0, hf0⟩ := hIn n h hI
  obtain ⟨dx, dm, hdx, hdm, hsp⟩ := p43 (xs (iI (7 * (j : Int) + 1)).toNatClampNeg) n h hI
  refine v_aload_n dL_law_1665 rfl ?_
  refine v_aload_no dL_law_1666 rfl ?_
  refine v_iload_n dL_law_1667 rfl ?_
  refine v_iconstI dL_law_1668 ?_
  refine v_iaddI dL_law_1669 ?_
  refine v_sld rfl dL_law_1670 (iI_in (by omega) (by omega) (by omega)) ?_
  refine v_callV dL_law_1671 ml_L_193 hsp hf0 rfl (s_lt hn rfl) rfl rfl (Nat.le_of_ble_eq_true rfl) hdx (show k + 0 ≤ 600000 by omega) (show u + 0 ≤ 7302250 by omega) ⟨Or.inr ⟨law_lvok hn, fun v hv => by cases hv⟩, fun r n1 h1 q => ?_⟩
  obtain ⟨v, rfl, ⟨hn1, fs1, hf1⟩, hsp1⟩ := q
  dsimp only [s_push]
  refine v_aload_n dL_law_1674 rfl ?_
  refine v_aload_no dL_law_1675 rfl ?_
  refine v_iload_n dL_law_1676 rfl ?_
  refine v_iconstI dL_law_1677 ?_
  refine v_iaddI dL_law_1678 ?_
  refine v_sld rfl dL_law_1679 (iI_in (by omega) (by omega) (by omega)) ?_
  refine v_callV dL_law_1680 ml_L_196 hsp1 hf1 rfl (s_lt hn1 rfl) rfl rfl (Nat.le_of_ble_eq_true rfl) hdm (show k + 0 + 0 ≤ 600000 by omega) (show u + 0 + 0 ≤ 7302250 by omega) ⟨Or.inl (fun _ _ _ q => q.1), fun r n2 h2 q => ?_⟩
  obtain ⟨rfl, rfl, hI2⟩ := q
  dsimp only [s_push]
  refine v_icmp_same (tgt := 1724) dL_law_1683 (by decide) ?_
  exact next _ _ _ _ hI2 (by omega) (by omega)
set_option maxRecDepth 10000 in
theorem law_case_44 {INV : Nat → (Nat → sE) → Prop} (hIn : ∀ n h, INV n h → 115 ≤ n ∧ ∃ fs, h 0 = .inr (11, fs)) (p44 : ∀ a1 : Int32, Pair m_X11_count m_X12_count 0 0 INV [.int a1]) {b L : Nat} {xs : Nat → Int32} (hL : L ≤ 3584) (j n k u : Nat) (h : Nat → sE) (hI : INV n h) (hj : 7 * (j : Int) + 7 ≤ L) (hk : k ≤ 115 + 3 * j) (hu : u ≤ 178400 + 900 * j) (next : ∀ (n k u : Nat) (h : Nat → sE), INV n h → k ≤ 115 + 3 * (j + 1) → u ≤ 178400 + 900 * (j + 1) → V (m_L, 2048, 600000, 7302250, 0, (fun r _ _ => r = some (.int (iI 1))), s_GL b L xs) k u n h 1724 [(3, .int (iI (7 * (j : Int)))), (2, .ref 77), (1, .ref 0), (0, .retAddr b)] []) : V (m_L, 2048, 600000, 7302250, 0, (fun r _ _ => r = some (.int (iI 1))), s_GL b L xs) k u n h 1688 [(3, .int (iI (7 * (j : Int)))), (2, .ref 77), (1, .ref 0), (0, .retAddr b)] [] := by
  obtain ⟨hn, fs0, hf0⟩ := hIn n h hI
  obtain ⟨dx, dm, hdx, hdm, hsp⟩ := p44 (xs (iI (7 * (j : Int) + 1)).toNatClampNeg) n h hI
  refine v_aload_n dL_law_1688 rfl ?_
  refine v_aload_no dL_law_1689 rfl ?_
  refine v_iload_n dL_law_1690 rfl ?_
  refine v_iconstI dL_law_1691 ?_
  refine v_iaddI dL_law_1692 ?_
  refine v_sld rfl dL_law_1693 (iI_in (by omega) (by omega) (by omega)) ?_
  refine v_callV dL_law_1694 ml_L_197 hsp hf0 rfl (s_lt hn rfl) rfl rfl (Nat.le_of_ble_eq_true rfl) hdx (show k + 0 ≤ 600000 by omega) (show u + 0 ≤ 7302250 by omega) ⟨Or.inr ⟨law_lvok hn, fun v hv => by cases hv⟩, fun r n1 h1 q => ?_⟩
  obtain ⟨v, rfl, ⟨hn1, fs1, hf1⟩, hsp1⟩ := q
  dsimp only [s_push]
  refine v_aload_n dL_law_1697 rfl ?_
  refine v_aload_no dL_law_1698 rfl ?_
  refine v_iload_n dL_law_1699 rfl ?_
  refine v_iconstI dL_law_1700 ?_
  refine v_iaddI dL_law_1701 ?_
  refine v_sld rfl dL_law_1702 (iI_in (by omega) (by omega) (by omega)) ?_
  refine v_callV dL_law_1703 ml_L_200 hsp1 hf1 rfl (s_lt hn1 rfl) rfl rfl (Nat.le_of_ble_eq_true rfl) hdm (show k + 0 + 0 ≤ 600000 by omega) (show u + 0 + 0 ≤ 7302250 by omega) ⟨Or.inl (fun _ _ _ q => q.1), fun r n2 h2 q => ?_⟩
  obtain ⟨rfl, rfl, hI2⟩ := q
  dsimp only [s_push]
  refine v_icmp_same (tgt := 1724) dL_law_1706 (by decide) ?_
  exact next _ _ _ _ hI2 (by omega) (by omega)
set_option maxRecDepth 10000 in
theorem law_case_45 {INV : Nat → (Nat → sE) → Prop} (hIn : ∀ n h, INV n h → 115 ≤ n ∧ ∃ fs, h 0 = .inr (11, fs)) (p45 : Pair m_X11_status m_X12_status 0 0 INV []) {b L : Nat} {xs : Nat → Int32} (hL : L ≤ 3584) (j n k u : Nat) (h : Nat → sE) (hI : INV n h) (hj : 7 * (j : Int) + 7 ≤ L) (hk : k ≤ 115 + 3 * j) (hu : u ≤ 178400 + 900 * j) (next : ∀ (n k u : Nat) (h : Nat → sE), INV n h → k ≤ 115 + 3 * (j + 1) → u ≤ 178400 + 900 * (j + 1) → V (m_L, 2048, 600000, 7302250, 0, (fun r _ _ => r = some (.int (iI 1))), s_GL b L xs) k u n h 1724 [(3, .int (iI (7 * (j : Int)))), (2, .ref 77), (1, .ref 0), (0, .retAddr b)] []) : V (m_L, 2048, 600000, 7302250, 0, (fun r _ _ => r = some (.int (iI 1))), s_GL b L xs) k u n h 1711 [(3, .int (iI (7 * (j : Int)))), (2, .ref 77), (1, .ref 0), (0, .retAddr b)] [] := by
  obtain ⟨hn, fs0, hf0⟩ := hIn n h hI
  obtain ⟨dx, dm, hdx, hdm, hsp⟩ := p45 n h hI
  refine v_aload_n dL_law_1711 rfl ?_
  refine v_callV dL_law_1712 ml_L_201 hsp hf0 rfl (s_lt hn rfl) rfl rfl (Nat.le_of_ble_eq_true rfl) hdx (show k + 0 ≤ 600000 by omega) (show u + 0 ≤ 7302250 by omega) ⟨Or.inr ⟨law_lvok hn, fun v hv => by cases hv⟩, fun r n1 h1 q => ?_⟩
  obtain ⟨v, rfl, ⟨hn1, fs1, hf1⟩, hsp1⟩ := q
  dsimp only [s_push]
  refine v_aload_n dL_law_1715 rfl ?_
  refine v_callV dL_law_1716 ml_L_204 hsp1 hf1 rfl (s_lt hn1 rfl) rfl rfl (Nat.le_of_ble_eq_true rfl) hdm (show k + 0 + 0 ≤ 600000 by omega) (show u + 0 + 0 ≤ 7302250 by omega) ⟨Or.inl (fun _ _ _ q => q.1), fun r n2 h2 q => ?_⟩
  obtain ⟨rfl, rfl, hI2⟩ := q
  dsimp only [s_push]
  refine v_icmp_same (tgt := 1724) dL_law_1719 (by decide) ?_
  exact next _ _ _ _ hI2 (by omega) (by omega)
set_option maxRecDepth 10000 in
theorem law_loop {INV : Nat → (Nat → sE) → Prop} (hIn : ∀ n h, INV n h → 115 ≤ n ∧ ∃ fs, h 0 = .inr (11, fs)) (p0 : ∀ a1 a2 a3 : Int32, Pair m_X11_put m_X12_put 0 0 INV [.int a1, .int a2, .int a3]) (p1 : ∀ a1 a2 : Int32, Pair m_X11_fact m_X12_fact 0 0 INV [.int a1, .int a2]) (p2 : ∀ a1 a2 a3 : Int32, Pair m_X11_wind m_X12_wind 0 0 INV [.int a1, .int a2, .int a3]) (p3 : ∀ a1 a2 a3 a4 a5 : Int32, Pair m_X11_cloud m_X12_cloud 0 0 INV [.int a1, .int a2, .int a3, .int a4, .int a5]) (p4 : ∀ a1 a2 : Int32, Pair m_X11_of m_X12_of 0 0 INV [.int a1, .int a2]) (p5 : ∀ a1 a2 a3 : Int32, Pair m_X11_flag m_X12_flag 0 0 INV [.int a1, .int a2, .int a3]) (p6 : Pair m_X11_undo m_X12_undo 0 0 INV []) (p7 : ∀ a1 a2 a3 a4 a5 : Int32, Pair m_X11_contract m_X12_contract 0 0 INV [.int a1, .int a2, .int a3, .int a4, .int a5]) (p8 : Pair m_X11_cancel m_X12_cancel 0 0 INV []) (p9 : ∀ a1 a2 : Int32, Pair m_X11_terms m_X12_terms 0 0 INV [.int a1, .int a2]) (p10 : ∀ a1 a2 a3 a4 a5 : Int32, Pair m_X11_feed m_X12_feed 0 0 INV [.int a1, .int a2, .int a3, .int a4, .int a5]) (p11 : ∀ a1 : Int32, Pair m_X11_end m_X12_end 0 0 INV [.int a1]) (p12 : Pair m_X11_row m_X12_row 0 0 INV []) (p13 : Pair m_X11_haze m_X12_haze 0 0 INV []) (p14 : Pair m_X11_law m_X12_law 3 900 INV []) (p15 : Pair m_X11_drives m_X12_drives 0 0 INV []) (p16 : Pair m_X11_fault m_X12_fault 0 0 INV []) (p17 : Pair m_X11_stopped m_X12_stopped 0 0 INV []) (p18 : ∀ a1 : Int32, Pair m_X11_force m_X12_force 0 0 INV [.int a1]) (p19 : ∀ a1 a2 a3 : Int32, Pair m_X11_asks m_X12_asks 0 0 INV [.int a1, .int a2, .int a3]) (p20 : ∀ a1 a2 a3 : Int32, Pair m_X11_at m_X12_at 0 0 INV [.int a1, .int a2, .int a3]) (p21 : ∀ a1 : Int32, Pair m_X11_dark m_X12_dark 0 0 INV [.int a1]) (p22 : ∀ a1 a2 : Int32, Pair m_X11_heat m_X12_heat 0 0 INV [.int a1, .int a2]) (p23 : ∀ a1 : Int32, Pair m_X11_scorched m_X12_scorched 0 0 INV [.int a1]) (p24 : ∀ a1 : Int32, Pair m_X11_broken m_X12_broken 0 0 INV [.int a1]) (p25 : ∀ a1 : Int32, Pair m_X11_judge m_X12_judge 0 0 INV [.int a1]) (p26 : ∀ a1 a2 a3 a4 a5 : Int32, Pair m_X11_drive m_X12_drive 0 0 INV [.int a1, .int a2, .int a3, .int a4, .int a5]) (p27 : ∀ a1 a2 a3 : Int32, Pair m_X11_pasture m_X12_pasture 0 0 INV [.int a1, .int a2, .int a3]) (p28 : ∀ a1 a2 : Int32, Pair m_X11_serve m_X12_serve 0 0 INV [.int a1, .int a2]) (p29 : ∀ a1 a2 a3 : Int32, Pair m_X11_cross m_X12_cross 0 0 INV [.int a1, .int a2, .int a3]) (p30 : ∀ a1 a2 : Int32, Pair m_X11_part m_X12_part 0 0 INV [.int a1, .int a2]) (p31 : ∀ a1 a2 a3 : Int32, PairL m_X11_likely m_X12_likely 0 0 INV [.int a1, .int a2, .int a3]) (p32 : ∀ a1 a2 a3 : Int32, PairL m_X11_surest m_X12_surest 0 0 INV [.int a1, .int a2, .int a3]) (p33 : ∀ a1 a2 a3 a4 a5 a6 : Int32, Pair m_X11_steer m_X12_steer 0 0 INV [.int a1, .int a2, .int a3, .int a4, .int a5, .int a6]) (p34 : ∀ a1 a2 a3 : Int32, Pair m_X11_sight m_X12_sight 0 0 INV [.int a1, .int a2, .int a3]) (p35 : Pair m_X11_forget m_X12_forget 0 0 INV []) (p36 : ∀ a1 a2 a3 a4 : Int32, Pair m_X11_stray m_X12_stray 0 0 INV [.int a1, .int a2, .int a3, .int a4]) (p37 : ∀ a1 : Int32, Pair m_X11_rustled m_X12_rustled 0 0 INV [.int a1]) (p38 : Pair m_X11_men m_X12_men 0 0 INV []) (p39 : ∀ a1 a2 a3 a4 : Int32, Pair m_X11_duel m_X12_duel 0 0 INV [.int a1, .int a2, .int a3, .int a4]) (p40 : ∀ a1 a2 : Int32, Pair m_X11_summer m_X12_summer 0 0 INV [.int a1, .int a2]) (p41 : ∀ a1 : Int32, Pair m_X11_drawn m_X12_drawn 0 0 INV [.int a1]) (p42 : ∀ a1 : Int32, Pair m_X11_image m_X12_image 0 0 INV [.int a1]) (p43 : ∀ a1 : Int32, Pair m_X11_back m_X12_back 0 0 INV [.int a1]) (p44 : ∀ a1 : Int32, Pair m_X11_count m_X12_count 0 0 INV [.int a1]) (p45 : Pair m_X11_status m_X12_status 0 0 INV []) {b L : Nat} {xs : Nat → Int32} (hL : L ≤ 3584) : ∀ (m j n k u : Nat) (h : Nat → sE), INV n h → L ≤ 7 * j + 6 + 7 * m → 7 * j ≤ L + 6 → k ≤ 115 + 3 * j → u ≤ 178400 + 900 * j → V (m_L, 2048, 600000, 7302250, 0, (fun r _ _ => r = some (.int (iI 1))), s_GL b L xs) k u n h 18 [(3, .int (iI (7 * (j : Int)))), (2, .ref 77), (1, .ref 0), (0, .retAddr b)] [] := by
  intro m
  induction m with
  | zero =>
    intro j n k u h hI hm hj hk hu
    refine v_iload_n dL_law_18 rfl ?_
    refine v_aload_no dL_law_19 rfl ?_
    refine v_slen rfl dL_law_20 ?_
    refine v_bipushI dL_law_21 rfl ?_
    refine v_isubI dL_law_23 ?_
    refine v_icmp_gtI (tgt := 1730) dL_law_24 (by decide) (by omega) (by omega) (by omega) (by omega) (fun c => ?_) (fun c => absurd (by omega) c)
    refine v_iconstI dL_law_1730 ?_
    exact v_z1 dL_law_1731 rfl (show k ≤ 600000 by omega) (show u ≤ 7302250 by omega) rfl
  | succ m ih =>
    intro j n k u h hI hm hj hk hu
    refine v_iload_n dL_law_18 rfl ?_
    refine v_aload_no dL_law_19 rfl ?_
    refine v_slen rfl dL_law_20 ?_
    refine v_bipushI dL_law_21 rfl ?_
    refine v_isubI dL_law_23 ?_
    refine v_icmp_gtI (tgt := 1730) dL_law_24 (by decide) (by omega) (by omega) (by omega) (by omega) (fun c => ?_) (fun c => ?_)
    · refine v_iconstI dL_law_1730 ?_
      exact v_z1 dL_law_1731 rfl (show k ≤ 600000 by omega) (show u ≤ 7302250 by omega) rfl
    · have next : ∀ (n k u : Nat) (h : Nat → sE), INV n h → k ≤ 115 + 3 * (j + 1) → u ≤ 178400 + 900 * (j + 1) → V (m_L, 2048, 600000, 7302250, 0, (fun r _ _ => r = some (.int (iI 1))), s_GL b L xs) k u n h 1724 [(3, .int (iI (7 * (j : Int)))), (2, .ref 77), (1, .ref 0), (0, .retAddr b)] [] := by
        intro n k u h hI hk hu
        refine v_iincI dL_law_1724 rfl (Nat.le_of_ble_eq_true rfl) ?_
        refine v_goto (tgt := 18) dL_law_1727 (by decide) ?_
        rw [show (7 * (j : Int) + 7) = 7 * ((j + 1 : Nat) : Int) by omega]
        exact ih (j + 1) n k u h hI (by omega) (by omega) hk hu
      refine v_aload_no dL_law_27 rfl ?_
      refine v_iload_n dL_law_28 rfl ?_
      refine v_sld rfl dL_law_29 (iI_in (by omega) (by omega) (by omega)) ?_
      refine v_bipushI dL_law_30 rfl ?_
      refine v_iand dL_law_32 ?_
      obtain ⟨z, hz, z0, z1⟩ := iI_of (xs (iI (7 * (j : Int))).toNatClampNeg &&& iI 63)
      rw [hz]
      by_cases c0 : z = 0
      · refine v_tabInI (tgt := 232) 0 dL_law_33 c0 (by decide) (by decide) (by decide) (by decide) rfl (by decide) ?_
        exact law_case_0 hIn p0 hL j n k u h hI (by omega) hk hu next
      by_cases c1 : z = 1
      · refine v_tabInI (tgt := 275) 1 dL_law_33 c1 (by decide) (by decide) (by decide) (by decide) rfl (by decide) ?_
        exact law_case_1 hIn p1 hL j n k u h hI (by omega) hk hu next
      by_cases c2 : z = 2
      · refine v_tabInI (tgt := 308) 2 dL_law_33 c2 (by decide) (by decide) (by decide) (by decide) rfl (by decide) ?_
        exact law_case_2 hIn p2 hL j n k u h hI (by omega) hk hu next
      by_cases c3 : z = 3
      · refine v_tabInI (tgt := 351) 3 dL_law_33 c3 (by decide) (by decide) (by decide) (by decide) rfl (by decide) ?_
        exact law_case_3 hIn p3 hL j n k u h hI (by omega) hk hu next
      by_cases c4 : z = 4
      · refine v_tabInI (tgt := 414) 4 dL_law_33 c4 (by decide) (by decide) (by decide) (by decide) rfl (by decide) ?_
        exact law_case_4 hIn p4 hL j n k u h hI (by omega) hk hu next
      by_cases c5 : z = 5
      · refine v_tabInI (tgt := 447) 5 dL_law_33 c5 (by decide) (by decide) (by decide) (by decide) rfl (by decide) ?_
        exact law_case_5 hIn p5 hL j n k u h hI (by omega) hk hu next
      by_cases c6 : z = 6
      · refine v_tabInI (tgt := 490) 6 dL_law_33 c6 (by decide) (by decide) (by decide) (by decide) rfl (by decide) ?_
        exact law_case_6 hIn p6 hL j n k u h hI (by omega) hk hu next
      by_cases c7 : z = 7
      · refine v_tabInI (tgt := 503) 7 dL_law_33 c7 (by decide) (by decide) (by decide) (by decide) rfl (by decide) ?_
        exact law_case_7 hIn p7 hL j n k u h hI (by omega) hk hu next
      by_cases c8 : z = 8
      · refine v_tabInI (tgt := 566) 8 dL_law_33 c8 (by decide) (by decide) (by decide) (by decide) rfl (by decide) ?_
        exact law_case_8 hIn p8 hL j n k u h hI (by omega) hk hu next
      by_cases c9 : z = 9
      · refine v_tabInI (tgt := 579) 9 dL_law_33 c9 (by decide) (by decide) (by decide) (by decide) rfl (by decide) ?_
        exact law_case_9 hIn p9 hL j n k u h hI (by omega) hk hu next
      by_cases c10 : z = 10
      · refine v_tabInI (tgt := 612) 10 dL_law_33 c10 (by decide) (by decide) (by decide) (by decide) rfl (by decide) ?_
        exact law_case_10 hIn p10 hL j n k u h hI (by omega) hk hu next
      by_cases c11 : z = 11
      · refine v_tabInI (tgt := 675) 11 dL_law_33 c11 (by decide) (by decide) (by decide) (by decide) rfl (by decide) ?_
        exact law_case_11 hIn p11 hL j n k u h hI (by omega) hk hu next
      by_cases c12 : z = 12
      · refine v_tabInI (tgt := 698) 12 dL_law_33 c12 (by decide) (by decide) (by decide) (by decide) rfl (by decide) ?_
        exact law_case_12 hIn p12 hL j n k u h hI (by omega) hk hu next
      by_cases c13 : z = 13
      · refine v_tabInI (tgt := 711) 13 dL_law_33 c13 (by decide) (by decide) (by decide) (by decide) rfl (by decide) ?_
        exact law_case_13 hIn p13 hL j n k u h hI (by omega) hk hu next
      by_cases c14 : z = 14
      · refine v_tabInI (tgt := 724) 14 dL_law_33 c14 (by decide) (by decide) (by decide) (by decide) rfl (by decide) ?_
        exact law_case_14 hIn p14 hL j n k u h hI (by omega) hk hu next
      by_cases c15 : z = 15
      · refine v_tabInI (tgt := 737) 15 dL_law_33 c15 (by decide) (by decide) (by decide) (by decide) rfl (by decide) ?_
        exact law_case_15 hIn p15 hL j n k u h hI (by omega) hk hu next
      by_cases c16 : z = 16
      · refine v_tabInI (tgt := 750) 16 dL_law_33 c16 (by decide) (by decide) (by decide) (by decide) rfl (by decide) ?_
        exact law_case_16 hIn p16 hL j n k u h hI (by omega) hk hu next
      by_cases c17 : z = 17
      · refine v_tabInI (tgt := 763) 17 dL_law_33 c17 (by decide) (by decide) (by decide) (by decide) rfl (by decide) ?_
        exact law_case_17 hIn p17 hL j n k u h hI (by omega) hk hu next
      by_cases c18 : z = 18
      · refine v_tabInI (tgt := 776) 18 dL_law_33 c18 (by decide) (by decide) (by decide) (by decide) rfl (by decide) ?_
        exact law_case_18 hIn p18 hL j n k u h hI (by omega) hk hu next
      by_cases c19 : z = 19
      · refine v_tabInI (tgt := 799) 19 dL_law_33 c19 (by decide) (by decide) (by decide) (by decide) rfl (by decide) ?_
        exact law_case_19 hIn p19 hL j n k u h hI (by omega) hk hu next
      by_cases c20 : z = 20
      · refine v_tabInI (tgt := 842) 20 dL_law_33 c20 (by decide) (by decide) (by decide) (by decide) rfl (by decide) ?_
        exact law_case_20 hIn p20 hL j n k u h hI (by omega) hk hu next
      by_cases c21 : z = 21
      · refine v_tabInI (tgt := 885) 21 dL_law_33 c21 (by decide) (by decide) (by decide) (by decide) rfl (by decide) ?_
        exact law_case_21 hIn p21 hL j n k u h hI (by omega) hk hu next
      by_cases c22 : z = 22
      · refine v_tabInI (tgt := 908) 22 dL_law_33 c22 (by decide) (by decide) (by decide) (by decide) rfl (by decide) ?_
        exact law_case_22 hIn p22 hL j n k u h hI (by omega) hk hu next
      by_cases c23 : z = 23
      · refine v_tabInI (tgt := 941) 23 dL_law_33 c23 (by decide) (by decide) (by decide) (by decide) rfl (by decide) ?_
        exact law_case_23 hIn p23 hL j n k u h hI (by omega) hk hu next
      by_cases c24 : z = 24
      · refine v_tabInI (tgt := 964) 24 dL_law_33 c24 (by decide) (by decide) (by decide) (by decide) rfl (by decide) ?_
        exact law_case_24 hIn p24 hL j n k u h hI (by omega) hk hu next
      by_cases c25 : z = 25
      · refine v_tabInI (tgt := 987) 25 dL_law_33 c25 (by decide) (by decide) (by decide) (by decide) rfl (by decide) ?_
        exact law_case_25 hIn p25 hL j n k u h hI (by omega) hk hu next
      by_cases c26 : z = 26
      · refine v_tabInI (tgt := 1010) 26 dL_law_33 c26 (by decide) (by decide) (by decide) (by decide) rfl (by decide) ?_
        exact law_case_26 hIn p26 hL j n k u h hI (by omega) hk hu next
      by_cases c27 : z = 27
      · refine v_tabInI (tgt := 1073) 27 dL_law_33 c27 (by decide) (by decide) (by decide) (by decide) rfl (by decide) ?_
        exact law_case_27 hIn p27 hL j n k u h hI (by omega) hk hu next
      by_cases c28 : z = 28
      · refine v_tabInI (tgt := 1116) 28 dL_law_33 c28 (by decide) (by decide) (by decide) (by decide) rfl (by decide) ?_
        exact law_case_28 hIn p28 hL j n k u h hI (by omega) hk hu next
      by_cases c29 : z = 29
      · refine v_tabInI (tgt := 1149) 29 dL_law_33 c29 (by decide) (by decide) (by decide) (by decide) rfl (by decide) ?_
        exact law_case_29 hIn p29 hL j n k u h hI (by omega) hk hu next
      by_cases c30 : z = 30
      · refine v_tabInI (tgt := 1192) 30 dL_law_33 c30 (by decide) (by decide) (by decide) (by decide) rfl (by decide) ?_
        exact law_case_30 hIn p30 hL j n k u h hI (by omega) hk hu next
      by_cases c31 : z = 31
      · refine v_tabInI (tgt := 1225) 31 dL_law_33 c31 (by decide) (by decide) (by decide) (by decide) rfl (by decide) ?_
        exact law_case_31 hIn p31 hL j n k u h hI (by omega) hk hu next
      by_cases c32 : z = 32
      · refine v_tabInI (tgt := 1269) 32 dL_law_33 c32 (by decide) (by decide) (by decide) (by decide) rfl (by decide) ?_
        exact law_case_32 hIn p32 hL j n k u h hI (by omega) hk hu next
      by_cases c33 : z = 33
      · refine v_tabInI (tgt := 1313) 33 dL_law_33 c33 (by decide) (by decide) (by decide) (by decide) rfl (by decide) ?_
        exact law_case_33 hIn p33 hL j n k u h hI (by omega) hk hu next
      by_cases c34 : z = 34
      · refine v_tabInI (tgt := 1388) 34 dL_law_33 c34 (by decide) (by decide) (by decide) (by decide) rfl (by decide) ?_
        exact law_case_34 hIn p34 hL j n k u h hI (by omega) hk hu next
      by_cases c35 : z = 35
      · refine v_tabInI (tgt := 1431) 35 dL_law_33 c35 (by decide) (by decide) (by decide) (by decide) rfl (by decide) ?_
        exact law_case_35 hIn p35 hL j n k u h hI (by omega) hk hu next
      by_cases c36 : z = 36
      · refine v_tabInI (tgt := 1444) 36 dL_law_33 c36 (by decide) (by decide) (by decide) (by decide) rfl (by decide) ?_
        exact law_case_36 hIn p36 hL j n k u h hI (by omega) hk hu next
      by_cases c37 : z = 37
      · refine v_tabInI (tgt := 1497) 37 dL_law_33 c37 (by decide) (by decide) (by decide) (by decide) rfl (by decide) ?_
        exact law_case_37 hIn p37 hL j n k u h hI (by omega) hk hu next
      by_cases c38 : z = 38
      · refine v_tabInI (tgt := 1520) 38 dL_law_33 c38 (by decide) (by decide) (by decide) (by decide) rfl (by decide) ?_
        exact law_case_38 hIn p38 hL j n k u h hI (by omega) hk hu next
      by_cases c39 : z = 39
      · refine v_tabInI (tgt := 1533) 39 dL_law_33 c39 (by decide) (by decide) (by decide) (by decide) rfl (by decide) ?_
        exact law_case_39 hIn p39 hL j n k u h hI (by omega) hk hu next
      by_cases c40 : z = 40
      · refine v_tabInI (tgt := 1586) 40 dL_law_33 c40 (by decide) (by decide) (by decide) (by decide) rfl (by decide) ?_
        exact law_case_40 hIn p40 hL j n k u h hI (by omega) hk hu next
      by_cases c41 : z = 41
      · refine v_tabInI (tgt := 1619) 41 dL_law_33 c41 (by decide) (by decide) (by decide) (by decide) rfl (by decide) ?_
        exact law_case_41 hIn p41 hL j n k u h hI (by omega) hk hu next
      by_cases c42 : z = 42
      · refine v_tabInI (tgt := 1642) 42 dL_law_33 c42 (by decide) (by decide) (by decide) (by decide) rfl (by decide) ?_
        exact law_case_42 hIn p42 hL j n k u h hI (by omega) hk hu next
      by_cases c43 : z = 43
      · refine v_tabInI (tgt := 1665) 43 dL_law_33 c43 (by decide) (by decide) (by decide) (by decide) rfl (by decide) ?_
        exact law_case_43 hIn p43 hL j n k u h hI (by omega) hk hu next
      by_cases c44 : z = 44
      · refine v_tabInI (tgt := 1688) 44 dL_law_33 c44 (by decide) (by decide) (by decide) (by decide) rfl (by decide) ?_
        exact law_case_44 hIn p44 hL j n k u h hI (by omega) hk hu next
      by_cases c45 : z = 45
      · refine v_tabInI (tgt := 1711) 45 dL_law_33 c45 (by decide) (by decide) (by decide) (by decide) rfl (by decide) ?_
        exact law_case_45 hIn p45 hL j n k u h hI (by omega) hk hu next
      refine v_tabOutI (tgt := 1724) dL_law_33 z0 z1 (by omega) (by decide) ?_
      exact next n k u h hI (by omega) (by omega)
