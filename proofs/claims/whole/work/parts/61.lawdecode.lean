/-! The law: its instructions. -/
theorem dl_0 : decode code 0 = .ok (.new 7, 3) := by decide +kernel
theorem dl_3 : decode code 3 = .ok (.dup, 1) := by decide +kernel
theorem dl_4 : decode code 4 = .ok (.invokespecial 9, 3) := by decide +kernel
theorem dl_7 : decode code 7 = .ok (.astore_n 1, 1) := by decide +kernel
theorem dl_8 : decode code 8 = .ok (.new 10, 3) := by decide +kernel
theorem dl_11 : decode code 11 = .ok (.dup, 1) := by decide +kernel
theorem dl_12 : decode code 12 = .ok (.invokespecial 12, 3) := by decide +kernel
theorem dl_15 : decode code 15 = .ok (.astore_n 2, 1) := by decide +kernel
theorem dl_16 : decode code 16 = .ok (.iconst 0, 1) := by decide +kernel
theorem dl_17 : decode code 17 = .ok (.istore_n 3, 1) := by decide +kernel
theorem dl_18 : decode code 18 = .ok (.iload_n 3, 1) := by decide +kernel
theorem dl_19 : decode code 19 = .ok (.aload_n 0, 1) := by decide +kernel
theorem dl_20 : decode code 20 = .ok (.arraylength, 1) := by decide +kernel
theorem dl_21 : decode code 21 = .ok (.iconst 5, 1) := by decide +kernel
theorem dl_22 : decode code 22 = .ok (.isub, 1) := by decide +kernel
theorem dl_23 : decode code 23 = .ok (.if_icmp .gt 1335, 3) := by decide +kernel
theorem dl_26 : decode code 26 = .ok (.aload_n 0, 1) := by decide +kernel
theorem dl_27 : decode code 27 = .ok (.iload_n 3, 1) := by decide +kernel
theorem dl_28 : decode code 28 = .ok (.iaload, 1) := by decide +kernel
theorem dl_29 : decode code 29 = .ok (.bipush 63, 2) := by decide +kernel
theorem dl_31 : decode code 31 = .ok (.iand, 1) := by decide +kernel
theorem dl_32 : decode code 32 = .ok (.tableswitch 1320 0 38 #[172, 225, 268, 291, 334, 367, 390, 413, 436, 459, 492, 525, 558, 611, 624, 637, 650, 693, 726, 749, 782, 815, 848, 881, 904, 927, 960, 993, 1026, 1049, 1092, 1145, 1168, 1201, 1224, 1247, 1260, 1283, 1306], 172) := by decide +kernel
theorem dl_204 : decode code 204 = .ok (.aload_n 1, 1) := by decide +kernel
theorem dl_205 : decode code 205 = .ok (.aload_n 0, 1) := by decide +kernel
theorem dl_206 : decode code 206 = .ok (.iload_n 3, 1) := by decide +kernel
theorem dl_207 : decode code 207 = .ok (.iconst 1, 1) := by decide +kernel
theorem dl_208 : decode code 208 = .ok (.iadd, 1) := by decide +kernel
theorem dl_209 : decode code 209 = .ok (.iaload, 1) := by decide +kernel
theorem dl_210 : decode code 210 = .ok (.aload_n 0, 1) := by decide +kernel
theorem dl_211 : decode code 211 = .ok (.iload_n 3, 1) := by decide +kernel
theorem dl_212 : decode code 212 = .ok (.iconst 2, 1) := by decide +kernel
theorem dl_213 : decode code 213 = .ok (.iadd, 1) := by decide +kernel
theorem dl_214 : decode code 214 = .ok (.iaload, 1) := by decide +kernel
theorem dl_215 : decode code 215 = .ok (.aload_n 0, 1) := by decide +kernel
theorem dl_216 : decode code 216 = .ok (.iload_n 3, 1) := by decide +kernel
theorem dl_217 : decode code 217 = .ok (.iconst 3, 1) := by decide +kernel
theorem dl_218 : decode code 218 = .ok (.iadd, 1) := by decide +kernel
theorem dl_219 : decode code 219 = .ok (.iaload, 1) := by decide +kernel
theorem dl_220 : decode code 220 = .ok (.aload_n 0, 1) := by decide +kernel
theorem dl_221 : decode code 221 = .ok (.iload_n 3, 1) := by decide +kernel
theorem dl_222 : decode code 222 = .ok (.iconst 4, 1) := by decide +kernel
theorem dl_223 : decode code 223 = .ok (.iadd, 1) := by decide +kernel
theorem dl_224 : decode code 224 = .ok (.iaload, 1) := by decide +kernel
theorem dl_225 : decode code 225 = .ok (.invokevirtual 13, 3) := by decide +kernel
theorem dl_228 : decode code 228 = .ok (.aload_n 2, 1) := by decide +kernel
theorem dl_229 : decode code 229 = .ok (.aload_n 0, 1) := by decide +kernel
theorem dl_230 : decode code 230 = .ok (.iload_n 3, 1) := by decide +kernel
theorem dl_231 : decode code 231 = .ok (.iconst 1, 1) := by decide +kernel
theorem dl_232 : decode code 232 = .ok (.iadd, 1) := by decide +kernel
theorem dl_233 : decode code 233 = .ok (.iaload, 1) := by decide +kernel
theorem dl_234 : decode code 234 = .ok (.aload_n 0, 1) := by decide +kernel
theorem dl_235 : decode code 235 = .ok (.iload_n 3, 1) := by decide +kernel
theorem dl_236 : decode code 236 = .ok (.iconst 2, 1) := by decide +kernel
theorem dl_237 : decode code 237 = .ok (.iadd, 1) := by decide +kernel
theorem dl_238 : decode code 238 = .ok (.iaload, 1) := by decide +kernel
theorem dl_239 : decode code 239 = .ok (.aload_n 0, 1) := by decide +kernel
theorem dl_240 : decode code 240 = .ok (.iload_n 3, 1) := by decide +kernel
theorem dl_241 : decode code 241 = .ok (.iconst 3, 1) := by decide +kernel
theorem dl_242 : decode code 242 = .ok (.iadd, 1) := by decide +kernel
theorem dl_243 : decode code 243 = .ok (.iaload, 1) := by decide +kernel
theorem dl_244 : decode code 244 = .ok (.aload_n 0, 1) := by decide +kernel
theorem dl_245 : decode code 245 = .ok (.iload_n 3, 1) := by decide +kernel
theorem dl_246 : decode code 246 = .ok (.iconst 4, 1) := by decide +kernel
theorem dl_247 : decode code 247 = .ok (.iadd, 1) := by decide +kernel
theorem dl_248 : decode code 248 = .ok (.iaload, 1) := by decide +kernel
theorem dl_249 : decode code 249 = .ok (.invokevirtual 17, 3) := by decide +kernel
theorem dl_252 : decode code 252 = .ok (.if_icmp .eq 1100, 3) := by decide +kernel
theorem dl_255 : decode code 255 = .ok (.iconst 0, 1) := by decide +kernel
theorem dl_256 : decode code 256 = .ok (.ireturn, 1) := by decide +kernel
theorem dl_257 : decode code 257 = .ok (.aload_n 1, 1) := by decide +kernel
theorem dl_258 : decode code 258 = .ok (.aload_n 0, 1) := by decide +kernel
theorem dl_259 : decode code 259 = .ok (.iload_n 3, 1) := by decide +kernel
theorem dl_260 : decode code 260 = .ok (.iconst 1, 1) := by decide +kernel
theorem dl_261 : decode code 261 = .ok (.iadd, 1) := by decide +kernel
theorem dl_262 : decode code 262 = .ok (.iaload, 1) := by decide +kernel
theorem dl_263 : decode code 263 = .ok (.aload_n 0, 1) := by decide +kernel
theorem dl_264 : decode code 264 = .ok (.iload_n 3, 1) := by decide +kernel
theorem dl_265 : decode code 265 = .ok (.iconst 2, 1) := by decide +kernel
theorem dl_266 : decode code 266 = .ok (.iadd, 1) := by decide +kernel
theorem dl_267 : decode code 267 = .ok (.iaload, 1) := by decide +kernel
theorem dl_268 : decode code 268 = .ok (.aload_n 0, 1) := by decide +kernel
theorem dl_269 : decode code 269 = .ok (.iload_n 3, 1) := by decide +kernel
theorem dl_270 : decode code 270 = .ok (.iconst 3, 1) := by decide +kernel
theorem dl_271 : decode code 271 = .ok (.iadd, 1) := by decide +kernel
theorem dl_272 : decode code 272 = .ok (.iaload, 1) := by decide +kernel
theorem dl_273 : decode code 273 = .ok (.invokevirtual 18, 3) := by decide +kernel
theorem dl_276 : decode code 276 = .ok (.aload_n 2, 1) := by decide +kernel
theorem dl_277 : decode code 277 = .ok (.aload_n 0, 1) := by decide +kernel
theorem dl_278 : decode code 278 = .ok (.iload_n 3, 1) := by decide +kernel
theorem dl_279 : decode code 279 = .ok (.iconst 1, 1) := by decide +kernel
theorem dl_280 : decode code 280 = .ok (.iadd, 1) := by decide +kernel
theorem dl_281 : decode code 281 = .ok (.iaload, 1) := by decide +kernel
theorem dl_282 : decode code 282 = .ok (.aload_n 0, 1) := by decide +kernel
theorem dl_283 : decode code 283 = .ok (.iload_n 3, 1) := by decide +kernel
theorem dl_284 : decode code 284 = .ok (.iconst 2, 1) := by decide +kernel
theorem dl_285 : decode code 285 = .ok (.iadd, 1) := by decide +kernel
theorem dl_286 : decode code 286 = .ok (.iaload, 1) := by decide +kernel
theorem dl_287 : decode code 287 = .ok (.aload_n 0, 1) := by decide +kernel
theorem dl_288 : decode code 288 = .ok (.iload_n 3, 1) := by decide +kernel
theorem dl_289 : decode code 289 = .ok (.iconst 3, 1) := by decide +kernel
theorem dl_290 : decode code 290 = .ok (.iadd, 1) := by decide +kernel
theorem dl_291 : decode code 291 = .ok (.iaload, 1) := by decide +kernel
theorem dl_292 : decode code 292 = .ok (.invokevirtual 22, 3) := by decide +kernel
theorem dl_295 : decode code 295 = .ok (.if_icmp .eq 1057, 3) := by decide +kernel
theorem dl_298 : decode code 298 = .ok (.iconst 0, 1) := by decide +kernel
theorem dl_299 : decode code 299 = .ok (.ireturn, 1) := by decide +kernel
theorem dl_300 : decode code 300 = .ok (.aload_n 1, 1) := by decide +kernel
theorem dl_301 : decode code 301 = .ok (.aload_n 0, 1) := by decide +kernel
theorem dl_302 : decode code 302 = .ok (.iload_n 3, 1) := by decide +kernel
theorem dl_303 : decode code 303 = .ok (.iconst 1, 1) := by decide +kernel
theorem dl_304 : decode code 304 = .ok (.iadd, 1) := by decide +kernel
theorem dl_305 : decode code 305 = .ok (.iaload, 1) := by decide +kernel
theorem dl_306 : decode code 306 = .ok (.invokevirtual 23, 3) := by decide +kernel
theorem dl_309 : decode code 309 = .ok (.aload_n 2, 1) := by decide +kernel
theorem dl_310 : decode code 310 = .ok (.aload_n 0, 1) := by decide +kernel
theorem dl_311 : decode code 311 = .ok (.iload_n 3, 1) := by decide +kernel
theorem dl_312 : decode code 312 = .ok (.iconst 1, 1) := by decide +kernel
theorem dl_313 : decode code 313 = .ok (.iadd, 1) := by decide +kernel
theorem dl_314 : decode code 314 = .ok (.iaload, 1) := by decide +kernel
theorem dl_315 : decode code 315 = .ok (.invokevirtual 27, 3) := by decide +kernel
theorem dl_318 : decode code 318 = .ok (.if_icmp .eq 1034, 3) := by decide +kernel
theorem dl_321 : decode code 321 = .ok (.iconst 0, 1) := by decide +kernel
theorem dl_322 : decode code 322 = .ok (.ireturn, 1) := by decide +kernel
theorem dl_323 : decode code 323 = .ok (.aload_n 1, 1) := by decide +kernel
theorem dl_324 : decode code 324 = .ok (.aload_n 0, 1) := by decide +kernel
theorem dl_325 : decode code 325 = .ok (.iload_n 3, 1) := by decide +kernel
theorem dl_326 : decode code 326 = .ok (.iconst 1, 1) := by decide +kernel
theorem dl_327 : decode code 327 = .ok (.iadd, 1) := by decide +kernel
theorem dl_328 : decode code 328 = .ok (.iaload, 1) := by decide +kernel
theorem dl_329 : decode code 329 = .ok (.aload_n 0, 1) := by decide +kernel
theorem dl_330 : decode code 330 = .ok (.iload_n 3, 1) := by decide +kernel
theorem dl_331 : decode code 331 = .ok (.iconst 2, 1) := by decide +kernel
theorem dl_332 : decode code 332 = .ok (.iadd, 1) := by decide +kernel
theorem dl_333 : decode code 333 = .ok (.iaload, 1) := by decide +kernel
theorem dl_334 : decode code 334 = .ok (.aload_n 0, 1) := by decide +kernel
theorem dl_335 : decode code 335 = .ok (.iload_n 3, 1) := by decide +kernel
theorem dl_336 : decode code 336 = .ok (.iconst 3, 1) := by decide +kernel
theorem dl_337 : decode code 337 = .ok (.iadd, 1) := by decide +kernel
theorem dl_338 : decode code 338 = .ok (.iaload, 1) := by decide +kernel
theorem dl_339 : decode code 339 = .ok (.invokevirtual 28, 3) := by decide +kernel
theorem dl_342 : decode code 342 = .ok (.aload_n 2, 1) := by decide +kernel
theorem dl_343 : decode code 343 = .ok (.aload_n 0, 1) := by decide +kernel
theorem dl_344 : decode code 344 = .ok (.iload_n 3, 1) := by decide +kernel
theorem dl_345 : decode code 345 = .ok (.iconst 1, 1) := by decide +kernel
theorem dl_346 : decode code 346 = .ok (.iadd, 1) := by decide +kernel
theorem dl_347 : decode code 347 = .ok (.iaload, 1) := by decide +kernel
theorem dl_348 : decode code 348 = .ok (.aload_n 0, 1) := by decide +kernel
theorem dl_349 : decode code 349 = .ok (.iload_n 3, 1) := by decide +kernel
theorem dl_350 : decode code 350 = .ok (.iconst 2, 1) := by decide +kernel
theorem dl_351 : decode code 351 = .ok (.iadd, 1) := by decide +kernel
theorem dl_352 : decode code 352 = .ok (.iaload, 1) := by decide +kernel
theorem dl_353 : decode code 353 = .ok (.aload_n 0, 1) := by decide +kernel
theorem dl_354 : decode code 354 = .ok (.iload_n 3, 1) := by decide +kernel
theorem dl_355 : decode code 355 = .ok (.iconst 3, 1) := by decide +kernel
theorem dl_356 : decode code 356 = .ok (.iadd, 1) := by decide +kernel
theorem dl_357 : decode code 357 = .ok (.iaload, 1) := by decide +kernel
theorem dl_358 : decode code 358 = .ok (.invokevirtual 31, 3) := by decide +kernel
theorem dl_361 : decode code 361 = .ok (.if_icmp .eq 991, 3) := by decide +kernel
theorem dl_364 : decode code 364 = .ok (.iconst 0, 1) := by decide +kernel
theorem dl_365 : decode code 365 = .ok (.ireturn, 1) := by decide +kernel
theorem dl_366 : decode code 366 = .ok (.aload_n 1, 1) := by decide +kernel
theorem dl_367 : decode code 367 = .ok (.aload_n 0, 1) := by decide +kernel
theorem dl_368 : decode code 368 = .ok (.iload_n 3, 1) := by decide +kernel
theorem dl_369 : decode code 369 = .ok (.iconst 1, 1) := by decide +kernel
theorem dl_370 : decode code 370 = .ok (.iadd, 1) := by decide +kernel
theorem dl_371 : decode code 371 = .ok (.iaload, 1) := by decide +kernel
theorem dl_372 : decode code 372 = .ok (.aload_n 0, 1) := by decide +kernel
theorem dl_373 : decode code 373 = .ok (.iload_n 3, 1) := by decide +kernel
theorem dl_374 : decode code 374 = .ok (.iconst 2, 1) := by decide +kernel
theorem dl_375 : decode code 375 = .ok (.iadd, 1) := by decide +kernel
theorem dl_376 : decode code 376 = .ok (.iaload, 1) := by decide +kernel
theorem dl_377 : decode code 377 = .ok (.invokevirtual 32, 3) := by decide +kernel
theorem dl_380 : decode code 380 = .ok (.aload_n 2, 1) := by decide +kernel
theorem dl_381 : decode code 381 = .ok (.aload_n 0, 1) := by decide +kernel
theorem dl_382 : decode code 382 = .ok (.iload_n 3, 1) := by decide +kernel
theorem dl_383 : decode code 383 = .ok (.iconst 1, 1) := by decide +kernel
theorem dl_384 : decode code 384 = .ok (.iadd, 1) := by decide +kernel
theorem dl_385 : decode code 385 = .ok (.iaload, 1) := by decide +kernel
theorem dl_386 : decode code 386 = .ok (.aload_n 0, 1) := by decide +kernel
theorem dl_387 : decode code 387 = .ok (.iload_n 3, 1) := by decide +kernel
theorem dl_388 : decode code 388 = .ok (.iconst 2, 1) := by decide +kernel
theorem dl_389 : decode code 389 = .ok (.iadd, 1) := by decide +kernel
theorem dl_390 : decode code 390 = .ok (.iaload, 1) := by decide +kernel
theorem dl_391 : decode code 391 = .ok (.invokevirtual 36, 3) := by decide +kernel
theorem dl_394 : decode code 394 = .ok (.if_icmp .eq 958, 3) := by decide +kernel
theorem dl_397 : decode code 397 = .ok (.iconst 0, 1) := by decide +kernel
theorem dl_398 : decode code 398 = .ok (.ireturn, 1) := by decide +kernel
theorem dl_399 : decode code 399 = .ok (.aload_n 1, 1) := by decide +kernel
theorem dl_400 : decode code 400 = .ok (.aload_n 0, 1) := by decide +kernel
theorem dl_401 : decode code 401 = .ok (.iload_n 3, 1) := by decide +kernel
theorem dl_402 : decode code 402 = .ok (.iconst 1, 1) := by decide +kernel
theorem dl_403 : decode code 403 = .ok (.iadd, 1) := by decide +kernel
theorem dl_404 : decode code 404 = .ok (.iaload, 1) := by decide +kernel
theorem dl_405 : decode code 405 = .ok (.invokevirtual 37, 3) := by decide +kernel
theorem dl_408 : decode code 408 = .ok (.aload_n 2, 1) := by decide +kernel
theorem dl_409 : decode code 409 = .ok (.aload_n 0, 1) := by decide +kernel
theorem dl_410 : decode code 410 = .ok (.iload_n 3, 1) := by decide +kernel
theorem dl_411 : decode code 411 = .ok (.iconst 1, 1) := by decide +kernel
theorem dl_412 : decode code 412 = .ok (.iadd, 1) := by decide +kernel
theorem dl_413 : decode code 413 = .ok (.iaload, 1) := by decide +kernel
theorem dl_414 : decode code 414 = .ok (.invokevirtual 40, 3) := by decide +kernel
theorem dl_417 : decode code 417 = .ok (.if_icmp .eq 935, 3) := by decide +kernel
theorem dl_420 : decode code 420 = .ok (.iconst 0, 1) := by decide +kernel
theorem dl_421 : decode code 421 = .ok (.ireturn, 1) := by decide +kernel
theorem dl_422 : decode code 422 = .ok (.aload_n 1, 1) := by decide +kernel
theorem dl_423 : decode code 423 = .ok (.aload_n 0, 1) := by decide +kernel
theorem dl_424 : decode code 424 = .ok (.iload_n 3, 1) := by decide +kernel
theorem dl_425 : decode code 425 = .ok (.iconst 1, 1) := by decide +kernel
theorem dl_426 : decode code 426 = .ok (.iadd, 1) := by decide +kernel
theorem dl_427 : decode code 427 = .ok (.iaload, 1) := by decide +kernel
theorem dl_428 : decode code 428 = .ok (.invokevirtual 41, 3) := by decide +kernel
theorem dl_431 : decode code 431 = .ok (.aload_n 2, 1) := by decide +kernel
theorem dl_432 : decode code 432 = .ok (.aload_n 0, 1) := by decide +kernel
theorem dl_433 : decode code 433 = .ok (.iload_n 3, 1) := by decide +kernel
theorem dl_434 : decode code 434 = .ok (.iconst 1, 1) := by decide +kernel
theorem dl_435 : decode code 435 = .ok (.iadd, 1) := by decide +kernel
theorem dl_436 : decode code 436 = .ok (.iaload, 1) := by decide +kernel
theorem dl_437 : decode code 437 = .ok (.invokevirtual 44, 3) := by decide +kernel
theorem dl_440 : decode code 440 = .ok (.if_icmp .eq 912, 3) := by decide +kernel
theorem dl_443 : decode code 443 = .ok (.iconst 0, 1) := by decide +kernel
theorem dl_444 : decode code 444 = .ok (.ireturn, 1) := by decide +kernel
theorem dl_445 : decode code 445 = .ok (.aload_n 1, 1) := by decide +kernel
theorem dl_446 : decode code 446 = .ok (.aload_n 0, 1) := by decide +kernel
theorem dl_447 : decode code 447 = .ok (.iload_n 3, 1) := by decide +kernel
theorem dl_448 : decode code 448 = .ok (.iconst 1, 1) := by decide +kernel
theorem dl_449 : decode code 449 = .ok (.iadd, 1) := by decide +kernel
theorem dl_450 : decode code 450 = .ok (.iaload, 1) := by decide +kernel
theorem dl_451 : decode code 451 = .ok (.invokevirtual 45, 3) := by decide +kernel
theorem dl_454 : decode code 454 = .ok (.aload_n 2, 1) := by decide +kernel
theorem dl_455 : decode code 455 = .ok (.aload_n 0, 1) := by decide +kernel
theorem dl_456 : decode code 456 = .ok (.iload_n 3, 1) := by decide +kernel
theorem dl_457 : decode code 457 = .ok (.iconst 1, 1) := by decide +kernel
theorem dl_458 : decode code 458 = .ok (.iadd, 1) := by decide +kernel
theorem dl_459 : decode code 459 = .ok (.iaload, 1) := by decide +kernel
theorem dl_460 : decode code 460 = .ok (.invokevirtual 48, 3) := by decide +kernel
theorem dl_463 : decode code 463 = .ok (.if_icmp .eq 889, 3) := by decide +kernel
theorem dl_466 : decode code 466 = .ok (.iconst 0, 1) := by decide +kernel
theorem dl_467 : decode code 467 = .ok (.ireturn, 1) := by decide +kernel
theorem dl_468 : decode code 468 = .ok (.aload_n 1, 1) := by decide +kernel
theorem dl_469 : decode code 469 = .ok (.aload_n 0, 1) := by decide +kernel
theorem dl_470 : decode code 470 = .ok (.iload_n 3, 1) := by decide +kernel
theorem dl_471 : decode code 471 = .ok (.iconst 1, 1) := by decide +kernel
theorem dl_472 : decode code 472 = .ok (.iadd, 1) := by decide +kernel
theorem dl_473 : decode code 473 = .ok (.iaload, 1) := by decide +kernel
theorem dl_474 : decode code 474 = .ok (.invokevirtual 49, 3) := by decide +kernel
theorem dl_477 : decode code 477 = .ok (.aload_n 2, 1) := by decide +kernel
theorem dl_478 : decode code 478 = .ok (.aload_n 0, 1) := by decide +kernel
theorem dl_479 : decode code 479 = .ok (.iload_n 3, 1) := by decide +kernel
theorem dl_480 : decode code 480 = .ok (.iconst 1, 1) := by decide +kernel
theorem dl_481 : decode code 481 = .ok (.iadd, 1) := by decide +kernel
theorem dl_482 : decode code 482 = .ok (.iaload, 1) := by decide +kernel
theorem dl_483 : decode code 483 = .ok (.invokevirtual 52, 3) := by decide +kernel
theorem dl_486 : decode code 486 = .ok (.if_icmp .eq 866, 3) := by decide +kernel
theorem dl_489 : decode code 489 = .ok (.iconst 0, 1) := by decide +kernel
theorem dl_490 : decode code 490 = .ok (.ireturn, 1) := by decide +kernel
theorem dl_491 : decode code 491 = .ok (.aload_n 1, 1) := by decide +kernel
theorem dl_492 : decode code 492 = .ok (.aload_n 0, 1) := by decide +kernel
theorem dl_493 : decode code 493 = .ok (.iload_n 3, 1) := by decide +kernel
theorem dl_494 : decode code 494 = .ok (.iconst 1, 1) := by decide +kernel
theorem dl_495 : decode code 495 = .ok (.iadd, 1) := by decide +kernel
theorem dl_496 : decode code 496 = .ok (.iaload, 1) := by decide +kernel
theorem dl_497 : decode code 497 = .ok (.aload_n 0, 1) := by decide +kernel
theorem dl_498 : decode code 498 = .ok (.iload_n 3, 1) := by decide +kernel
theorem dl_499 : decode code 499 = .ok (.iconst 2, 1) := by decide +kernel
theorem dl_500 : decode code 500 = .ok (.iadd, 1) := by decide +kernel
theorem dl_501 : decode code 501 = .ok (.iaload, 1) := by decide +kernel
theorem dl_502 : decode code 502 = .ok (.invokevirtual 53, 3) := by decide +kernel
theorem dl_505 : decode code 505 = .ok (.aload_n 2, 1) := by decide +kernel
theorem dl_506 : decode code 506 = .ok (.aload_n 0, 1) := by decide +kernel
theorem dl_507 : decode code 507 = .ok (.iload_n 3, 1) := by decide +kernel
theorem dl_508 : decode code 508 = .ok (.iconst 1, 1) := by decide +kernel
theorem dl_509 : decode code 509 = .ok (.iadd, 1) := by decide +kernel
theorem dl_510 : decode code 510 = .ok (.iaload, 1) := by decide +kernel
theorem dl_511 : decode code 511 = .ok (.aload_n 0, 1) := by decide +kernel
theorem dl_512 : decode code 512 = .ok (.iload_n 3, 1) := by decide +kernel
theorem dl_513 : decode code 513 = .ok (.iconst 2, 1) := by decide +kernel
theorem dl_514 : decode code 514 = .ok (.iadd, 1) := by decide +kernel
theorem dl_515 : decode code 515 = .ok (.iaload, 1) := by decide +kernel
theorem dl_516 : decode code 516 = .ok (.invokevirtual 56, 3) := by decide +kernel
theorem dl_519 : decode code 519 = .ok (.if_icmp .eq 833, 3) := by decide +kernel
theorem dl_522 : decode code 522 = .ok (.iconst 0, 1) := by decide +kernel
theorem dl_523 : decode code 523 = .ok (.ireturn, 1) := by decide +kernel
theorem dl_524 : decode code 524 = .ok (.aload_n 1, 1) := by decide +kernel
theorem dl_525 : decode code 525 = .ok (.aload_n 0, 1) := by decide +kernel
theorem dl_526 : decode code 526 = .ok (.iload_n 3, 1) := by decide +kernel
theorem dl_527 : decode code 527 = .ok (.iconst 1, 1) := by decide +kernel
theorem dl_528 : decode code 528 = .ok (.iadd, 1) := by decide +kernel
theorem dl_529 : decode code 529 = .ok (.iaload, 1) := by decide +kernel
theorem dl_530 : decode code 530 = .ok (.aload_n 0, 1) := by decide +kernel
theorem dl_531 : decode code 531 = .ok (.iload_n 3, 1) := by decide +kernel
theorem dl_532 : decode code 532 = .ok (.iconst 2, 1) := by decide +kernel
theorem dl_533 : decode code 533 = .ok (.iadd, 1) := by decide +kernel
theorem dl_534 : decode code 534 = .ok (.iaload, 1) := by decide +kernel
theorem dl_535 : decode code 535 = .ok (.invokevirtual 57, 3) := by decide +kernel
theorem dl_538 : decode code 538 = .ok (.aload_n 2, 1) := by decide +kernel
theorem dl_539 : decode code 539 = .ok (.aload_n 0, 1) := by decide +kernel
theorem dl_540 : decode code 540 = .ok (.iload_n 3, 1) := by decide +kernel
theorem dl_541 : decode code 541 = .ok (.iconst 1, 1) := by decide +kernel
theorem dl_542 : decode code 542 = .ok (.iadd, 1) := by decide +kernel
theorem dl_543 : decode code 543 = .ok (.iaload, 1) := by decide +kernel
theorem dl_544 : decode code 544 = .ok (.aload_n 0, 1) := by decide +kernel
theorem dl_545 : decode code 545 = .ok (.iload_n 3, 1) := by decide +kernel
theorem dl_546 : decode code 546 = .ok (.iconst 2, 1) := by decide +kernel
theorem dl_547 : decode code 547 = .ok (.iadd, 1) := by decide +kernel
theorem dl_548 : decode code 548 = .ok (.iaload, 1) := by decide +kernel
theorem dl_549 : decode code 549 = .ok (.invokevirtual 60, 3) := by decide +kernel
theorem dl_552 : decode code 552 = .ok (.if_icmp .eq 800, 3) := by decide +kernel
theorem dl_555 : decode code 555 = .ok (.iconst 0, 1) := by decide +kernel
theorem dl_556 : decode code 556 = .ok (.ireturn, 1) := by decide +kernel
theorem dl_557 : decode code 557 = .ok (.aload_n 1, 1) := by decide +kernel
theorem dl_558 : decode code 558 = .ok (.aload_n 0, 1) := by decide +kernel
theorem dl_559 : decode code 559 = .ok (.iload_n 3, 1) := by decide +kernel
theorem dl_560 : decode code 560 = .ok (.iconst 1, 1) := by decide +kernel
theorem dl_561 : decode code 561 = .ok (.iadd, 1) := by decide +kernel
theorem dl_562 : decode code 562 = .ok (.iaload, 1) := by decide +kernel
theorem dl_563 : decode code 563 = .ok (.aload_n 0, 1) := by decide +kernel
theorem dl_564 : decode code 564 = .ok (.iload_n 3, 1) := by decide +kernel
theorem dl_565 : decode code 565 = .ok (.iconst 2, 1) := by decide +kernel
theorem dl_566 : decode code 566 = .ok (.iadd, 1) := by decide +kernel
theorem dl_567 : decode code 567 = .ok (.iaload, 1) := by decide +kernel
theorem dl_568 : decode code 568 = .ok (.invokevirtual 61, 3) := by decide +kernel
theorem dl_571 : decode code 571 = .ok (.aload_n 2, 1) := by decide +kernel
theorem dl_572 : decode code 572 = .ok (.aload_n 0, 1) := by decide +kernel
theorem dl_573 : decode code 573 = .ok (.iload_n 3, 1) := by decide +kernel
theorem dl_574 : decode code 574 = .ok (.iconst 1, 1) := by decide +kernel
theorem dl_575 : decode code 575 = .ok (.iadd, 1) := by decide +kernel
theorem dl_576 : decode code 576 = .ok (.iaload, 1) := by decide +kernel
theorem dl_577 : decode code 577 = .ok (.aload_n 0, 1) := by decide +kernel
theorem dl_578 : decode code 578 = .ok (.iload_n 3, 1) := by decide +kernel
theorem dl_579 : decode code 579 = .ok (.iconst 2, 1) := by decide +kernel
theorem dl_580 : decode code 580 = .ok (.iadd, 1) := by decide +kernel
theorem dl_581 : decode code 581 = .ok (.iaload, 1) := by decide +kernel
theorem dl_582 : decode code 582 = .ok (.invokevirtual 64, 3) := by decide +kernel
theorem dl_585 : decode code 585 = .ok (.if_icmp .eq 767, 3) := by decide +kernel
theorem dl_588 : decode code 588 = .ok (.iconst 0, 1) := by decide +kernel
theorem dl_589 : decode code 589 = .ok (.ireturn, 1) := by decide +kernel
theorem dl_590 : decode code 590 = .ok (.aload_n 1, 1) := by decide +kernel
theorem dl_591 : decode code 591 = .ok (.aload_n 0, 1) := by decide +kernel
theorem dl_592 : decode code 592 = .ok (.iload_n 3, 1) := by decide +kernel
theorem dl_593 : decode code 593 = .ok (.iconst 1, 1) := by decide +kernel
theorem dl_594 : decode code 594 = .ok (.iadd, 1) := by decide +kernel
theorem dl_595 : decode code 595 = .ok (.iaload, 1) := by decide +kernel
theorem dl_596 : decode code 596 = .ok (.i2l, 1) := by decide +kernel
theorem dl_597 : decode code 597 = .ok (.bipush 32, 2) := by decide +kernel
theorem dl_599 : decode code 599 = .ok (.lshl, 1) := by decide +kernel
theorem dl_600 : decode code 600 = .ok (.aload_n 0, 1) := by decide +kernel
theorem dl_601 : decode code 601 = .ok (.iload_n 3, 1) := by decide +kernel
theorem dl_602 : decode code 602 = .ok (.iconst 2, 1) := by decide +kernel
theorem dl_603 : decode code 603 = .ok (.iadd, 1) := by decide +kernel
theorem dl_604 : decode code 604 = .ok (.iaload, 1) := by decide +kernel
theorem dl_605 : decode code 605 = .ok (.i2l, 1) := by decide +kernel
theorem dl_606 : decode code 606 = .ok (.ldc2_w 65, 3) := by decide +kernel
theorem dl_609 : decode code 609 = .ok (.land, 1) := by decide +kernel
theorem dl_610 : decode code 610 = .ok (.lor, 1) := by decide +kernel
theorem dl_611 : decode code 611 = .ok (.invokevirtual 67, 3) := by decide +kernel
theorem dl_614 : decode code 614 = .ok (.aload_n 2, 1) := by decide +kernel
theorem dl_615 : decode code 615 = .ok (.aload_n 0, 1) := by decide +kernel
theorem dl_616 : decode code 616 = .ok (.iload_n 3, 1) := by decide +kernel
theorem dl_617 : decode code 617 = .ok (.iconst 1, 1) := by decide +kernel
theorem dl_618 : decode code 618 = .ok (.iadd, 1) := by decide +kernel
theorem dl_619 : decode code 619 = .ok (.iaload, 1) := by decide +kernel
theorem dl_620 : decode code 620 = .ok (.i2l, 1) := by decide +kernel
theorem dl_621 : decode code 621 = .ok (.bipush 32, 2) := by decide +kernel
theorem dl_623 : decode code 623 = .ok (.lshl, 1) := by decide +kernel
theorem dl_624 : decode code 624 = .ok (.aload_n 0, 1) := by decide +kernel
theorem dl_625 : decode code 625 = .ok (.iload_n 3, 1) := by decide +kernel
theorem dl_626 : decode code 626 = .ok (.iconst 2, 1) := by decide +kernel
theorem dl_627 : decode code 627 = .ok (.iadd, 1) := by decide +kernel
theorem dl_628 : decode code 628 = .ok (.iaload, 1) := by decide +kernel
theorem dl_629 : decode code 629 = .ok (.i2l, 1) := by decide +kernel
theorem dl_630 : decode code 630 = .ok (.ldc2_w 65, 3) := by decide +kernel
theorem dl_633 : decode code 633 = .ok (.land, 1) := by decide +kernel
theorem dl_634 : decode code 634 = .ok (.lor, 1) := by decide +kernel
theorem dl_635 : decode code 635 = .ok (.invokevirtual 71, 3) := by decide +kernel
theorem dl_638 : decode code 638 = .ok (.if_icmp .eq 714, 3) := by decide +kernel
theorem dl_641 : decode code 641 = .ok (.iconst 0, 1) := by decide +kernel
theorem dl_642 : decode code 642 = .ok (.ireturn, 1) := by decide +kernel
theorem dl_643 : decode code 643 = .ok (.aload_n 1, 1) := by decide +kernel
theorem dl_644 : decode code 644 = .ok (.invokevirtual 72, 3) := by decide +kernel
theorem dl_647 : decode code 647 = .ok (.aload_n 2, 1) := by decide +kernel
theorem dl_648 : decode code 648 = .ok (.invokevirtual 76, 3) := by decide +kernel
theorem dl_651 : decode code 651 = .ok (.if_icmp .eq 701, 3) := by decide +kernel
theorem dl_654 : decode code 654 = .ok (.iconst 0, 1) := by decide +kernel
theorem dl_655 : decode code 655 = .ok (.ireturn, 1) := by decide +kernel
theorem dl_656 : decode code 656 = .ok (.aload_n 1, 1) := by decide +kernel
theorem dl_657 : decode code 657 = .ok (.invokevirtual 77, 3) := by decide +kernel
theorem dl_660 : decode code 660 = .ok (.aload_n 2, 1) := by decide +kernel
theorem dl_661 : decode code 661 = .ok (.invokevirtual 80, 3) := by decide +kernel
theorem dl_664 : decode code 664 = .ok (.if_icmp .eq 688, 3) := by decide +kernel
theorem dl_667 : decode code 667 = .ok (.iconst 0, 1) := by decide +kernel
theorem dl_668 : decode code 668 = .ok (.ireturn, 1) := by decide +kernel
theorem dl_669 : decode code 669 = .ok (.aload_n 1, 1) := by decide +kernel
theorem dl_670 : decode code 670 = .ok (.invokevirtual 81, 3) := by decide +kernel
theorem dl_673 : decode code 673 = .ok (.aload_n 2, 1) := by decide +kernel
theorem dl_674 : decode code 674 = .ok (.invokevirtual 84, 3) := by decide +kernel
theorem dl_677 : decode code 677 = .ok (.if_icmp .eq 675, 3) := by decide +kernel
theorem dl_680 : decode code 680 = .ok (.iconst 0, 1) := by decide +kernel
theorem dl_681 : decode code 681 = .ok (.ireturn, 1) := by decide +kernel
theorem dl_682 : decode code 682 = .ok (.aload_n 1, 1) := by decide +kernel
theorem dl_683 : decode code 683 = .ok (.aload_n 0, 1) := by decide +kernel
theorem dl_684 : decode code 684 = .ok (.iload_n 3, 1) := by decide +kernel
theorem dl_685 : decode code 685 = .ok (.iconst 1, 1) := by decide +kernel
theorem dl_686 : decode code 686 = .ok (.iadd, 1) := by decide +kernel
theorem dl_687 : decode code 687 = .ok (.iaload, 1) := by decide +kernel
theorem dl_688 : decode code 688 = .ok (.aload_n 0, 1) := by decide +kernel
theorem dl_689 : decode code 689 = .ok (.iload_n 3, 1) := by decide +kernel
theorem dl_690 : decode code 690 = .ok (.iconst 2, 1) := by decide +kernel
theorem dl_691 : decode code 691 = .ok (.iadd, 1) := by decide +kernel
theorem dl_692 : decode code 692 = .ok (.iaload, 1) := by decide +kernel
theorem dl_693 : decode code 693 = .ok (.aload_n 0, 1) := by decide +kernel
theorem dl_694 : decode code 694 = .ok (.iload_n 3, 1) := by decide +kernel
theorem dl_695 : decode code 695 = .ok (.iconst 3, 1) := by decide +kernel
theorem dl_696 : decode code 696 = .ok (.iadd, 1) := by decide +kernel
theorem dl_697 : decode code 697 = .ok (.iaload, 1) := by decide +kernel
theorem dl_698 : decode code 698 = .ok (.invokevirtual 85, 3) := by decide +kernel
theorem dl_701 : decode code 701 = .ok (.aload_n 2, 1) := by decide +kernel
theorem dl_702 : decode code 702 = .ok (.aload_n 0, 1) := by decide +kernel
theorem dl_703 : decode code 703 = .ok (.iload_n 3, 1) := by decide +kernel
theorem dl_704 : decode code 704 = .ok (.iconst 1, 1) := by decide +kernel
theorem dl_705 : decode code 705 = .ok (.iadd, 1) := by decide +kernel
theorem dl_706 : decode code 706 = .ok (.iaload, 1) := by decide +kernel
theorem dl_707 : decode code 707 = .ok (.aload_n 0, 1) := by decide +kernel
theorem dl_708 : decode code 708 = .ok (.iload_n 3, 1) := by decide +kernel
theorem dl_709 : decode code 709 = .ok (.iconst 2, 1) := by decide +kernel
theorem dl_710 : decode code 710 = .ok (.iadd, 1) := by decide +kernel
theorem dl_711 : decode code 711 = .ok (.iaload, 1) := by decide +kernel
theorem dl_712 : decode code 712 = .ok (.aload_n 0, 1) := by decide +kernel
theorem dl_713 : decode code 713 = .ok (.iload_n 3, 1) := by decide +kernel
theorem dl_714 : decode code 714 = .ok (.iconst 3, 1) := by decide +kernel
theorem dl_715 : decode code 715 = .ok (.iadd, 1) := by decide +kernel
theorem dl_716 : decode code 716 = .ok (.iaload, 1) := by decide +kernel
theorem dl_717 : decode code 717 = .ok (.invokevirtual 88, 3) := by decide +kernel
theorem dl_720 : decode code 720 = .ok (.if_icmp .eq 632, 3) := by decide +kernel
theorem dl_723 : decode code 723 = .ok (.iconst 0, 1) := by decide +kernel
theorem dl_724 : decode code 724 = .ok (.ireturn, 1) := by decide +kernel
theorem dl_725 : decode code 725 = .ok (.aload_n 1, 1) := by decide +kernel
theorem dl_726 : decode code 726 = .ok (.aload_n 0, 1) := by decide +kernel
theorem dl_727 : decode code 727 = .ok (.iload_n 3, 1) := by decide +kernel
theorem dl_728 : decode code 728 = .ok (.iconst 1, 1) := by decide +kernel
theorem dl_729 : decode code 729 = .ok (.iadd, 1) := by decide +kernel
theorem dl_730 : decode code 730 = .ok (.iaload, 1) := by decide +kernel
theorem dl_731 : decode code 731 = .ok (.aload_n 0, 1) := by decide +kernel
theorem dl_732 : decode code 732 = .ok (.iload_n 3, 1) := by decide +kernel
theorem dl_733 : decode code 733 = .ok (.iconst 2, 1) := by decide +kernel
theorem dl_734 : decode code 734 = .ok (.iadd, 1) := by decide +kernel
theorem dl_735 : decode code 735 = .ok (.iaload, 1) := by decide +kernel
theorem dl_736 : decode code 736 = .ok (.invokevirtual 89, 3) := by decide +kernel
theorem dl_739 : decode code 739 = .ok (.aload_n 2, 1) := by decide +kernel
theorem dl_740 : decode code 740 = .ok (.aload_n 0, 1) := by decide +kernel
theorem dl_741 : decode code 741 = .ok (.iload_n 3, 1) := by decide +kernel
theorem dl_742 : decode code 742 = .ok (.iconst 1, 1) := by decide +kernel
theorem dl_743 : decode code 743 = .ok (.iadd, 1) := by decide +kernel
theorem dl_744 : decode code 744 = .ok (.iaload, 1) := by decide +kernel
theorem dl_745 : decode code 745 = .ok (.aload_n 0, 1) := by decide +kernel
theorem dl_746 : decode code 746 = .ok (.iload_n 3, 1) := by decide +kernel
theorem dl_747 : decode code 747 = .ok (.iconst 2, 1) := by decide +kernel
theorem dl_748 : decode code 748 = .ok (.iadd, 1) := by decide +kernel
theorem dl_749 : decode code 749 = .ok (.iaload, 1) := by decide +kernel
theorem dl_750 : decode code 750 = .ok (.invokevirtual 92, 3) := by decide +kernel
theorem dl_753 : decode code 753 = .ok (.if_icmp .eq 599, 3) := by decide +kernel
theorem dl_756 : decode code 756 = .ok (.iconst 0, 1) := by decide +kernel
theorem dl_757 : decode code 757 = .ok (.ireturn, 1) := by decide +kernel
theorem dl_758 : decode code 758 = .ok (.aload_n 1, 1) := by decide +kernel
theorem dl_759 : decode code 759 = .ok (.aload_n 0, 1) := by decide +kernel
theorem dl_760 : decode code 760 = .ok (.iload_n 3, 1) := by decide +kernel
theorem dl_761 : decode code 761 = .ok (.iconst 1, 1) := by decide +kernel
theorem dl_762 : decode code 762 = .ok (.iadd, 1) := by decide +kernel
theorem dl_763 : decode code 763 = .ok (.iaload, 1) := by decide +kernel
theorem dl_764 : decode code 764 = .ok (.invokevirtual 93, 3) := by decide +kernel
theorem dl_767 : decode code 767 = .ok (.aload_n 2, 1) := by decide +kernel
theorem dl_768 : decode code 768 = .ok (.aload_n 0, 1) := by decide +kernel
theorem dl_769 : decode code 769 = .ok (.iload_n 3, 1) := by decide +kernel
theorem dl_770 : decode code 770 = .ok (.iconst 1, 1) := by decide +kernel
theorem dl_771 : decode code 771 = .ok (.iadd, 1) := by decide +kernel
theorem dl_772 : decode code 772 = .ok (.iaload, 1) := by decide +kernel
theorem dl_773 : decode code 773 = .ok (.invokevirtual 96, 3) := by decide +kernel
theorem dl_776 : decode code 776 = .ok (.if_icmp .eq 576, 3) := by decide +kernel
theorem dl_779 : decode code 779 = .ok (.iconst 0, 1) := by decide +kernel
theorem dl_780 : decode code 780 = .ok (.ireturn, 1) := by decide +kernel
theorem dl_781 : decode code 781 = .ok (.aload_n 1, 1) := by decide +kernel
theorem dl_782 : decode code 782 = .ok (.aload_n 0, 1) := by decide +kernel
theorem dl_783 : decode code 783 = .ok (.iload_n 3, 1) := by decide +kernel
theorem dl_784 : decode code 784 = .ok (.iconst 1, 1) := by decide +kernel
theorem dl_785 : decode code 785 = .ok (.iadd, 1) := by decide +kernel
theorem dl_786 : decode code 786 = .ok (.iaload, 1) := by decide +kernel
theorem dl_787 : decode code 787 = .ok (.aload_n 0, 1) := by decide +kernel
theorem dl_788 : decode code 788 = .ok (.iload_n 3, 1) := by decide +kernel
theorem dl_789 : decode code 789 = .ok (.iconst 2, 1) := by decide +kernel
theorem dl_790 : decode code 790 = .ok (.iadd, 1) := by decide +kernel
theorem dl_791 : decode code 791 = .ok (.iaload, 1) := by decide +kernel
theorem dl_792 : decode code 792 = .ok (.invokevirtual 97, 3) := by decide +kernel
theorem dl_795 : decode code 795 = .ok (.aload_n 2, 1) := by decide +kernel
theorem dl_796 : decode code 796 = .ok (.aload_n 0, 1) := by decide +kernel
theorem dl_797 : decode code 797 = .ok (.iload_n 3, 1) := by decide +kernel
theorem dl_798 : decode code 798 = .ok (.iconst 1, 1) := by decide +kernel
theorem dl_799 : decode code 799 = .ok (.iadd, 1) := by decide +kernel
theorem dl_800 : decode code 800 = .ok (.iaload, 1) := by decide +kernel
theorem dl_801 : decode code 801 = .ok (.aload_n 0, 1) := by decide +kernel
theorem dl_802 : decode code 802 = .ok (.iload_n 3, 1) := by decide +kernel
theorem dl_803 : decode code 803 = .ok (.iconst 2, 1) := by decide +kernel
theorem dl_804 : decode code 804 = .ok (.iadd, 1) := by decide +kernel
theorem dl_805 : decode code 805 = .ok (.iaload, 1) := by decide +kernel
theorem dl_806 : decode code 806 = .ok (.invokevirtual 100, 3) := by decide +kernel
theorem dl_809 : decode code 809 = .ok (.if_icmp .eq 543, 3) := by decide +kernel
theorem dl_812 : decode code 812 = .ok (.iconst 0, 1) := by decide +kernel
theorem dl_813 : decode code 813 = .ok (.ireturn, 1) := by decide +kernel
theorem dl_814 : decode code 814 = .ok (.aload_n 1, 1) := by decide +kernel
theorem dl_815 : decode code 815 = .ok (.aload_n 0, 1) := by decide +kernel
theorem dl_816 : decode code 816 = .ok (.iload_n 3, 1) := by decide +kernel
theorem dl_817 : decode code 817 = .ok (.iconst 1, 1) := by decide +kernel
theorem dl_818 : decode code 818 = .ok (.iadd, 1) := by decide +kernel
theorem dl_819 : decode code 819 = .ok (.iaload, 1) := by decide +kernel
theorem dl_820 : decode code 820 = .ok (.aload_n 0, 1) := by decide +kernel
theorem dl_821 : decode code 821 = .ok (.iload_n 3, 1) := by decide +kernel
theorem dl_822 : decode code 822 = .ok (.iconst 2, 1) := by decide +kernel
theorem dl_823 : decode code 823 = .ok (.iadd, 1) := by decide +kernel
theorem dl_824 : decode code 824 = .ok (.iaload, 1) := by decide +kernel
theorem dl_825 : decode code 825 = .ok (.invokevirtual 101, 3) := by decide +kernel
theorem dl_828 : decode code 828 = .ok (.aload_n 2, 1) := by decide +kernel
theorem dl_829 : decode code 829 = .ok (.aload_n 0, 1) := by decide +kernel
theorem dl_830 : decode code 830 = .ok (.iload_n 3, 1) := by decide +kernel
theorem dl_831 : decode code 831 = .ok (.iconst 1, 1) := by decide +kernel
theorem dl_832 : decode code 832 = .ok (.iadd, 1) := by decide +kernel
theorem dl_833 : decode code 833 = .ok (.iaload, 1) := by decide +kernel
theorem dl_834 : decode code 834 = .ok (.aload_n 0, 1) := by decide +kernel
theorem dl_835 : decode code 835 = .ok (.iload_n 3, 1) := by decide +kernel
theorem dl_836 : decode code 836 = .ok (.iconst 2, 1) := by decide +kernel
theorem dl_837 : decode code 837 = .ok (.iadd, 1) := by decide +kernel
theorem dl_838 : decode code 838 = .ok (.iaload, 1) := by decide +kernel
theorem dl_839 : decode code 839 = .ok (.invokevirtual 104, 3) := by decide +kernel
theorem dl_842 : decode code 842 = .ok (.if_icmp .eq 510, 3) := by decide +kernel
theorem dl_845 : decode code 845 = .ok (.iconst 0, 1) := by decide +kernel
theorem dl_846 : decode code 846 = .ok (.ireturn, 1) := by decide +kernel
theorem dl_847 : decode code 847 = .ok (.aload_n 1, 1) := by decide +kernel
theorem dl_848 : decode code 848 = .ok (.aload_n 0, 1) := by decide +kernel
theorem dl_849 : decode code 849 = .ok (.iload_n 3, 1) := by decide +kernel
theorem dl_850 : decode code 850 = .ok (.iconst 1, 1) := by decide +kernel
theorem dl_851 : decode code 851 = .ok (.iadd, 1) := by decide +kernel
theorem dl_852 : decode code 852 = .ok (.iaload, 1) := by decide +kernel
theorem dl_853 : decode code 853 = .ok (.aload_n 0, 1) := by decide +kernel
theorem dl_854 : decode code 854 = .ok (.iload_n 3, 1) := by decide +kernel
theorem dl_855 : decode code 855 = .ok (.iconst 2, 1) := by decide +kernel
theorem dl_856 : decode code 856 = .ok (.iadd, 1) := by decide +kernel
theorem dl_857 : decode code 857 = .ok (.iaload, 1) := by decide +kernel
theorem dl_858 : decode code 858 = .ok (.invokevirtual 105, 3) := by decide +kernel
theorem dl_861 : decode code 861 = .ok (.aload_n 2, 1) := by decide +kernel
theorem dl_862 : decode code 862 = .ok (.aload_n 0, 1) := by decide +kernel
theorem dl_863 : decode code 863 = .ok (.iload_n 3, 1) := by decide +kernel
theorem dl_864 : decode code 864 = .ok (.iconst 1, 1) := by decide +kernel
theorem dl_865 : decode code 865 = .ok (.iadd, 1) := by decide +kernel
theorem dl_866 : decode code 866 = .ok (.iaload, 1) := by decide +kernel
theorem dl_867 : decode code 867 = .ok (.aload_n 0, 1) := by decide +kernel
theorem dl_868 : decode code 868 = .ok (.iload_n 3, 1) := by decide +kernel
theorem dl_869 : decode code 869 = .ok (.iconst 2, 1) := by decide +kernel
theorem dl_870 : decode code 870 = .ok (.iadd, 1) := by decide +kernel
theorem dl_871 : decode code 871 = .ok (.iaload, 1) := by decide +kernel
theorem dl_872 : decode code 872 = .ok (.invokevirtual 108, 3) := by decide +kernel
theorem dl_875 : decode code 875 = .ok (.if_icmp .eq 477, 3) := by decide +kernel
theorem dl_878 : decode code 878 = .ok (.iconst 0, 1) := by decide +kernel
theorem dl_879 : decode code 879 = .ok (.ireturn, 1) := by decide +kernel
theorem dl_880 : decode code 880 = .ok (.aload_n 1, 1) := by decide +kernel
theorem dl_881 : decode code 881 = .ok (.aload_n 0, 1) := by decide +kernel
theorem dl_882 : decode code 882 = .ok (.iload_n 3, 1) := by decide +kernel
theorem dl_883 : decode code 883 = .ok (.iconst 1, 1) := by decide +kernel
theorem dl_884 : decode code 884 = .ok (.iadd, 1) := by decide +kernel
theorem dl_885 : decode code 885 = .ok (.iaload, 1) := by decide +kernel
theorem dl_886 : decode code 886 = .ok (.aload_n 0, 1) := by decide +kernel
theorem dl_887 : decode code 887 = .ok (.iload_n 3, 1) := by decide +kernel
theorem dl_888 : decode code 888 = .ok (.iconst 2, 1) := by decide +kernel
theorem dl_889 : decode code 889 = .ok (.iadd, 1) := by decide +kernel
theorem dl_890 : decode code 890 = .ok (.iaload, 1) := by decide +kernel
theorem dl_891 : decode code 891 = .ok (.invokevirtual 109, 3) := by decide +kernel
theorem dl_894 : decode code 894 = .ok (.aload_n 2, 1) := by decide +kernel
theorem dl_895 : decode code 895 = .ok (.aload_n 0, 1) := by decide +kernel
theorem dl_896 : decode code 896 = .ok (.iload_n 3, 1) := by decide +kernel
theorem dl_897 : decode code 897 = .ok (.iconst 1, 1) := by decide +kernel
theorem dl_898 : decode code 898 = .ok (.iadd, 1) := by decide +kernel
theorem dl_899 : decode code 899 = .ok (.iaload, 1) := by decide +kernel
theorem dl_900 : decode code 900 = .ok (.aload_n 0, 1) := by decide +kernel
theorem dl_901 : decode code 901 = .ok (.iload_n 3, 1) := by decide +kernel
theorem dl_902 : decode code 902 = .ok (.iconst 2, 1) := by decide +kernel
theorem dl_903 : decode code 903 = .ok (.iadd, 1) := by decide +kernel
theorem dl_904 : decode code 904 = .ok (.iaload, 1) := by decide +kernel
theorem dl_905 : decode code 905 = .ok (.invokevirtual 112, 3) := by decide +kernel
theorem dl_908 : decode code 908 = .ok (.if_icmp .eq 444, 3) := by decide +kernel
theorem dl_911 : decode code 911 = .ok (.iconst 0, 1) := by decide +kernel
theorem dl_912 : decode code 912 = .ok (.ireturn, 1) := by decide +kernel
theorem dl_913 : decode code 913 = .ok (.aload_n 1, 1) := by decide +kernel
theorem dl_914 : decode code 914 = .ok (.aload_n 0, 1) := by decide +kernel
theorem dl_915 : decode code 915 = .ok (.iload_n 3, 1) := by decide +kernel
theorem dl_916 : decode code 916 = .ok (.iconst 1, 1) := by decide +kernel
theorem dl_917 : decode code 917 = .ok (.iadd, 1) := by decide +kernel
theorem dl_918 : decode code 918 = .ok (.iaload, 1) := by decide +kernel
theorem dl_919 : decode code 919 = .ok (.invokevirtual 113, 3) := by decide +kernel
theorem dl_922 : decode code 922 = .ok (.aload_n 2, 1) := by decide +kernel
theorem dl_923 : decode code 923 = .ok (.aload_n 0, 1) := by decide +kernel
theorem dl_924 : decode code 924 = .ok (.iload_n 3, 1) := by decide +kernel
theorem dl_925 : decode code 925 = .ok (.iconst 1, 1) := by decide +kernel
theorem dl_926 : decode code 926 = .ok (.iadd, 1) := by decide +kernel
theorem dl_927 : decode code 927 = .ok (.iaload, 1) := by decide +kernel
theorem dl_928 : decode code 928 = .ok (.invokevirtual 116, 3) := by decide +kernel
theorem dl_931 : decode code 931 = .ok (.if_icmp .eq 421, 3) := by decide +kernel
theorem dl_934 : decode code 934 = .ok (.iconst 0, 1) := by decide +kernel
theorem dl_935 : decode code 935 = .ok (.ireturn, 1) := by decide +kernel
theorem dl_936 : decode code 936 = .ok (.aload_n 1, 1) := by decide +kernel
theorem dl_937 : decode code 937 = .ok (.aload_n 0, 1) := by decide +kernel
theorem dl_938 : decode code 938 = .ok (.iload_n 3, 1) := by decide +kernel
theorem dl_939 : decode code 939 = .ok (.iconst 1, 1) := by decide +kernel
theorem dl_940 : decode code 940 = .ok (.iadd, 1) := by decide +kernel
theorem dl_941 : decode code 941 = .ok (.iaload, 1) := by decide +kernel
theorem dl_942 : decode code 942 = .ok (.invokevirtual 117, 3) := by decide +kernel
theorem dl_945 : decode code 945 = .ok (.aload_n 2, 1) := by decide +kernel
theorem dl_946 : decode code 946 = .ok (.aload_n 0, 1) := by decide +kernel
theorem dl_947 : decode code 947 = .ok (.iload_n 3, 1) := by decide +kernel
theorem dl_948 : decode code 948 = .ok (.iconst 1, 1) := by decide +kernel
theorem dl_949 : decode code 949 = .ok (.iadd, 1) := by decide +kernel
theorem dl_950 : decode code 950 = .ok (.iaload, 1) := by decide +kernel
theorem dl_951 : decode code 951 = .ok (.invokevirtual 120, 3) := by decide +kernel
theorem dl_954 : decode code 954 = .ok (.if_icmp .eq 398, 3) := by decide +kernel
theorem dl_957 : decode code 957 = .ok (.iconst 0, 1) := by decide +kernel
theorem dl_958 : decode code 958 = .ok (.ireturn, 1) := by decide +kernel
theorem dl_959 : decode code 959 = .ok (.aload_n 1, 1) := by decide +kernel
theorem dl_960 : decode code 960 = .ok (.aload_n 0, 1) := by decide +kernel
theorem dl_961 : decode code 961 = .ok (.iload_n 3, 1) := by decide +kernel
theorem dl_962 : decode code 962 = .ok (.iconst 1, 1) := by decide +kernel
theorem dl_963 : decode code 963 = .ok (.iadd, 1) := by decide +kernel
theorem dl_964 : decode code 964 = .ok (.iaload, 1) := by decide +kernel
theorem dl_965 : decode code 965 = .ok (.aload_n 0, 1) := by decide +kernel
theorem dl_966 : decode code 966 = .ok (.iload_n 3, 1) := by decide +kernel
theorem dl_967 : decode code 967 = .ok (.iconst 2, 1) := by decide +kernel
theorem dl_968 : decode code 968 = .ok (.iadd, 1) := by decide +kernel
theorem dl_969 : decode code 969 = .ok (.iaload, 1) := by decide +kernel
theorem dl_970 : decode code 970 = .ok (.invokevirtual 121, 3) := by decide +kernel
theorem dl_973 : decode code 973 = .ok (.aload_n 2, 1) := by decide +kernel
theorem dl_974 : decode code 974 = .ok (.aload_n 0, 1) := by decide +kernel
theorem dl_975 : decode code 975 = .ok (.iload_n 3, 1) := by decide +kernel
theorem dl_976 : decode code 976 = .ok (.iconst 1, 1) := by decide +kernel
theorem dl_977 : decode code 977 = .ok (.iadd, 1) := by decide +kernel
theorem dl_978 : decode code 978 = .ok (.iaload, 1) := by decide +kernel
theorem dl_979 : decode code 979 = .ok (.aload_n 0, 1) := by decide +kernel
theorem dl_980 : decode code 980 = .ok (.iload_n 3, 1) := by decide +kernel
theorem dl_981 : decode code 981 = .ok (.iconst 2, 1) := by decide +kernel
theorem dl_982 : decode code 982 = .ok (.iadd, 1) := by decide +kernel
theorem dl_983 : decode code 983 = .ok (.iaload, 1) := by decide +kernel
theorem dl_984 : decode code 984 = .ok (.invokevirtual 124, 3) := by decide +kernel
theorem dl_987 : decode code 987 = .ok (.if_icmp .eq 365, 3) := by decide +kernel
theorem dl_990 : decode code 990 = .ok (.iconst 0, 1) := by decide +kernel
theorem dl_991 : decode code 991 = .ok (.ireturn, 1) := by decide +kernel
theorem dl_992 : decode code 992 = .ok (.aload_n 1, 1) := by decide +kernel
theorem dl_993 : decode code 993 = .ok (.aload_n 0, 1) := by decide +kernel
theorem dl_994 : decode code 994 = .ok (.iload_n 3, 1) := by decide +kernel
theorem dl_995 : decode code 995 = .ok (.iconst 1, 1) := by decide +kernel
theorem dl_996 : decode code 996 = .ok (.iadd, 1) := by decide +kernel
theorem dl_997 : decode code 997 = .ok (.iaload, 1) := by decide +kernel
theorem dl_998 : decode code 998 = .ok (.aload_n 0, 1) := by decide +kernel
theorem dl_999 : decode code 999 = .ok (.iload_n 3, 1) := by decide +kernel
theorem dl_1000 : decode code 1000 = .ok (.iconst 2, 1) := by decide +kernel
theorem dl_1001 : decode code 1001 = .ok (.iadd, 1) := by decide +kernel
theorem dl_1002 : decode code 1002 = .ok (.iaload, 1) := by decide +kernel
theorem dl_1003 : decode code 1003 = .ok (.invokevirtual 125, 3) := by decide +kernel
theorem dl_1006 : decode code 1006 = .ok (.aload_n 2, 1) := by decide +kernel
theorem dl_1007 : decode code 1007 = .ok (.aload_n 0, 1) := by decide +kernel
theorem dl_1008 : decode code 1008 = .ok (.iload_n 3, 1) := by decide +kernel
theorem dl_1009 : decode code 1009 = .ok (.iconst 1, 1) := by decide +kernel
theorem dl_1010 : decode code 1010 = .ok (.iadd, 1) := by decide +kernel
theorem dl_1011 : decode code 1011 = .ok (.iaload, 1) := by decide +kernel
theorem dl_1012 : decode code 1012 = .ok (.aload_n 0, 1) := by decide +kernel
theorem dl_1013 : decode code 1013 = .ok (.iload_n 3, 1) := by decide +kernel
theorem dl_1014 : decode code 1014 = .ok (.iconst 2, 1) := by decide +kernel
theorem dl_1015 : decode code 1015 = .ok (.iadd, 1) := by decide +kernel
theorem dl_1016 : decode code 1016 = .ok (.iaload, 1) := by decide +kernel
theorem dl_1017 : decode code 1017 = .ok (.invokevirtual 128, 3) := by decide +kernel
theorem dl_1020 : decode code 1020 = .ok (.if_icmp .eq 332, 3) := by decide +kernel
theorem dl_1023 : decode code 1023 = .ok (.iconst 0, 1) := by decide +kernel
theorem dl_1024 : decode code 1024 = .ok (.ireturn, 1) := by decide +kernel
theorem dl_1025 : decode code 1025 = .ok (.aload_n 1, 1) := by decide +kernel
theorem dl_1026 : decode code 1026 = .ok (.aload_n 0, 1) := by decide +kernel
theorem dl_1027 : decode code 1027 = .ok (.iload_n 3, 1) := by decide +kernel
theorem dl_1028 : decode code 1028 = .ok (.iconst 1, 1) := by decide +kernel
theorem dl_1029 : decode code 1029 = .ok (.iadd, 1) := by decide +kernel
theorem dl_1030 : decode code 1030 = .ok (.iaload, 1) := by decide +kernel
theorem dl_1031 : decode code 1031 = .ok (.aload_n 0, 1) := by decide +kernel
theorem dl_1032 : decode code 1032 = .ok (.iload_n 3, 1) := by decide +kernel
theorem dl_1033 : decode code 1033 = .ok (.iconst 2, 1) := by decide +kernel
theorem dl_1034 : decode code 1034 = .ok (.iadd, 1) := by decide +kernel
theorem dl_1035 : decode code 1035 = .ok (.iaload, 1) := by decide +kernel
theorem dl_1036 : decode code 1036 = .ok (.invokevirtual 129, 3) := by decide +kernel
theorem dl_1039 : decode code 1039 = .ok (.aload_n 2, 1) := by decide +kernel
theorem dl_1040 : decode code 1040 = .ok (.aload_n 0, 1) := by decide +kernel
theorem dl_1041 : decode code 1041 = .ok (.iload_n 3, 1) := by decide +kernel
theorem dl_1042 : decode code 1042 = .ok (.iconst 1, 1) := by decide +kernel
theorem dl_1043 : decode code 1043 = .ok (.iadd, 1) := by decide +kernel
theorem dl_1044 : decode code 1044 = .ok (.iaload, 1) := by decide +kernel
theorem dl_1045 : decode code 1045 = .ok (.aload_n 0, 1) := by decide +kernel
theorem dl_1046 : decode code 1046 = .ok (.iload_n 3, 1) := by decide +kernel
theorem dl_1047 : decode code 1047 = .ok (.iconst 2, 1) := by decide +kernel
theorem dl_1048 : decode code 1048 = .ok (.iadd, 1) := by decide +kernel
theorem dl_1049 : decode code 1049 = .ok (.iaload, 1) := by decide +kernel
theorem dl_1050 : decode code 1050 = .ok (.invokevirtual 132, 3) := by decide +kernel
theorem dl_1053 : decode code 1053 = .ok (.if_icmp .eq 299, 3) := by decide +kernel
theorem dl_1056 : decode code 1056 = .ok (.iconst 0, 1) := by decide +kernel
theorem dl_1057 : decode code 1057 = .ok (.ireturn, 1) := by decide +kernel
theorem dl_1058 : decode code 1058 = .ok (.aload_n 1, 1) := by decide +kernel
theorem dl_1059 : decode code 1059 = .ok (.aload_n 0, 1) := by decide +kernel
theorem dl_1060 : decode code 1060 = .ok (.iload_n 3, 1) := by decide +kernel
theorem dl_1061 : decode code 1061 = .ok (.iconst 1, 1) := by decide +kernel
theorem dl_1062 : decode code 1062 = .ok (.iadd, 1) := by decide +kernel
theorem dl_1063 : decode code 1063 = .ok (.iaload, 1) := by decide +kernel
theorem dl_1064 : decode code 1064 = .ok (.invokevirtual 133, 3) := by decide +kernel
theorem dl_1067 : decode code 1067 = .ok (.aload_n 2, 1) := by decide +kernel
theorem dl_1068 : decode code 1068 = .ok (.aload_n 0, 1) := by decide +kernel
theorem dl_1069 : decode code 1069 = .ok (.iload_n 3, 1) := by decide +kernel
theorem dl_1070 : decode code 1070 = .ok (.iconst 1, 1) := by decide +kernel
theorem dl_1071 : decode code 1071 = .ok (.iadd, 1) := by decide +kernel
theorem dl_1072 : decode code 1072 = .ok (.iaload, 1) := by decide +kernel
theorem dl_1073 : decode code 1073 = .ok (.invokevirtual 136, 3) := by decide +kernel
theorem dl_1076 : decode code 1076 = .ok (.if_icmp .eq 276, 3) := by decide +kernel
theorem dl_1079 : decode code 1079 = .ok (.iconst 0, 1) := by decide +kernel
theorem dl_1080 : decode code 1080 = .ok (.ireturn, 1) := by decide +kernel
theorem dl_1081 : decode code 1081 = .ok (.aload_n 1, 1) := by decide +kernel
theorem dl_1082 : decode code 1082 = .ok (.aload_n 0, 1) := by decide +kernel
theorem dl_1083 : decode code 1083 = .ok (.iload_n 3, 1) := by decide +kernel
theorem dl_1084 : decode code 1084 = .ok (.iconst 1, 1) := by decide +kernel
theorem dl_1085 : decode code 1085 = .ok (.iadd, 1) := by decide +kernel
theorem dl_1086 : decode code 1086 = .ok (.iaload, 1) := by decide +kernel
theorem dl_1087 : decode code 1087 = .ok (.aload_n 0, 1) := by decide +kernel
theorem dl_1088 : decode code 1088 = .ok (.iload_n 3, 1) := by decide +kernel
theorem dl_1089 : decode code 1089 = .ok (.iconst 2, 1) := by decide +kernel
theorem dl_1090 : decode code 1090 = .ok (.iadd, 1) := by decide +kernel
theorem dl_1091 : decode code 1091 = .ok (.iaload, 1) := by decide +kernel
theorem dl_1092 : decode code 1092 = .ok (.aload_n 0, 1) := by decide +kernel
theorem dl_1093 : decode code 1093 = .ok (.iload_n 3, 1) := by decide +kernel
theorem dl_1094 : decode code 1094 = .ok (.iconst 3, 1) := by decide +kernel
theorem dl_1095 : decode code 1095 = .ok (.iadd, 1) := by decide +kernel
theorem dl_1096 : decode code 1096 = .ok (.iaload, 1) := by decide +kernel
theorem dl_1097 : decode code 1097 = .ok (.invokevirtual 137, 3) := by decide +kernel
theorem dl_1100 : decode code 1100 = .ok (.aload_n 2, 1) := by decide +kernel
theorem dl_1101 : decode code 1101 = .ok (.aload_n 0, 1) := by decide +kernel
theorem dl_1102 : decode code 1102 = .ok (.iload_n 3, 1) := by decide +kernel
theorem dl_1103 : decode code 1103 = .ok (.iconst 1, 1) := by decide +kernel
theorem dl_1104 : decode code 1104 = .ok (.iadd, 1) := by decide +kernel
theorem dl_1105 : decode code 1105 = .ok (.iaload, 1) := by decide +kernel
theorem dl_1106 : decode code 1106 = .ok (.aload_n 0, 1) := by decide +kernel
theorem dl_1107 : decode code 1107 = .ok (.iload_n 3, 1) := by decide +kernel
theorem dl_1108 : decode code 1108 = .ok (.iconst 2, 1) := by decide +kernel
theorem dl_1109 : decode code 1109 = .ok (.iadd, 1) := by decide +kernel
theorem dl_1110 : decode code 1110 = .ok (.iaload, 1) := by decide +kernel
theorem dl_1111 : decode code 1111 = .ok (.aload_n 0, 1) := by decide +kernel
theorem dl_1112 : decode code 1112 = .ok (.iload_n 3, 1) := by decide +kernel
theorem dl_1113 : decode code 1113 = .ok (.iconst 3, 1) := by decide +kernel
theorem dl_1114 : decode code 1114 = .ok (.iadd, 1) := by decide +kernel
theorem dl_1115 : decode code 1115 = .ok (.iaload, 1) := by decide +kernel
theorem dl_1116 : decode code 1116 = .ok (.invokevirtual 140, 3) := by decide +kernel
theorem dl_1119 : decode code 1119 = .ok (.if_icmp .eq 233, 3) := by decide +kernel
theorem dl_1122 : decode code 1122 = .ok (.iconst 0, 1) := by decide +kernel
theorem dl_1123 : decode code 1123 = .ok (.ireturn, 1) := by decide +kernel
theorem dl_1124 : decode code 1124 = .ok (.aload_n 1, 1) := by decide +kernel
theorem dl_1125 : decode code 1125 = .ok (.aload_n 0, 1) := by decide +kernel
theorem dl_1126 : decode code 1126 = .ok (.iload_n 3, 1) := by decide +kernel
theorem dl_1127 : decode code 1127 = .ok (.iconst 1, 1) := by decide +kernel
theorem dl_1128 : decode code 1128 = .ok (.iadd, 1) := by decide +kernel
theorem dl_1129 : decode code 1129 = .ok (.iaload, 1) := by decide +kernel
theorem dl_1130 : decode code 1130 = .ok (.aload_n 0, 1) := by decide +kernel
theorem dl_1131 : decode code 1131 = .ok (.iload_n 3, 1) := by decide +kernel
theorem dl_1132 : decode code 1132 = .ok (.iconst 2, 1) := by decide +kernel
theorem dl_1133 : decode code 1133 = .ok (.iadd, 1) := by decide +kernel
theorem dl_1134 : decode code 1134 = .ok (.iaload, 1) := by decide +kernel
theorem dl_1135 : decode code 1135 = .ok (.aload_n 0, 1) := by decide +kernel
theorem dl_1136 : decode code 1136 = .ok (.iload_n 3, 1) := by decide +kernel
theorem dl_1137 : decode code 1137 = .ok (.iconst 3, 1) := by decide +kernel
theorem dl_1138 : decode code 1138 = .ok (.iadd, 1) := by decide +kernel
theorem dl_1139 : decode code 1139 = .ok (.iaload, 1) := by decide +kernel
theorem dl_1140 : decode code 1140 = .ok (.aload_n 0, 1) := by decide +kernel
theorem dl_1141 : decode code 1141 = .ok (.iload_n 3, 1) := by decide +kernel
theorem dl_1142 : decode code 1142 = .ok (.iconst 4, 1) := by decide +kernel
theorem dl_1143 : decode code 1143 = .ok (.iadd, 1) := by decide +kernel
theorem dl_1144 : decode code 1144 = .ok (.iaload, 1) := by decide +kernel
theorem dl_1145 : decode code 1145 = .ok (.invokevirtual 141, 3) := by decide +kernel
theorem dl_1148 : decode code 1148 = .ok (.aload_n 2, 1) := by decide +kernel
theorem dl_1149 : decode code 1149 = .ok (.aload_n 0, 1) := by decide +kernel
theorem dl_1150 : decode code 1150 = .ok (.iload_n 3, 1) := by decide +kernel
theorem dl_1151 : decode code 1151 = .ok (.iconst 1, 1) := by decide +kernel
theorem dl_1152 : decode code 1152 = .ok (.iadd, 1) := by decide +kernel
theorem dl_1153 : decode code 1153 = .ok (.iaload, 1) := by decide +kernel
theorem dl_1154 : decode code 1154 = .ok (.aload_n 0, 1) := by decide +kernel
theorem dl_1155 : decode code 1155 = .ok (.iload_n 3, 1) := by decide +kernel
theorem dl_1156 : decode code 1156 = .ok (.iconst 2, 1) := by decide +kernel
theorem dl_1157 : decode code 1157 = .ok (.iadd, 1) := by decide +kernel
theorem dl_1158 : decode code 1158 = .ok (.iaload, 1) := by decide +kernel
theorem dl_1159 : decode code 1159 = .ok (.aload_n 0, 1) := by decide +kernel
theorem dl_1160 : decode code 1160 = .ok (.iload_n 3, 1) := by decide +kernel
theorem dl_1161 : decode code 1161 = .ok (.iconst 3, 1) := by decide +kernel
theorem dl_1162 : decode code 1162 = .ok (.iadd, 1) := by decide +kernel
theorem dl_1163 : decode code 1163 = .ok (.iaload, 1) := by decide +kernel
theorem dl_1164 : decode code 1164 = .ok (.aload_n 0, 1) := by decide +kernel
theorem dl_1165 : decode code 1165 = .ok (.iload_n 3, 1) := by decide +kernel
theorem dl_1166 : decode code 1166 = .ok (.iconst 4, 1) := by decide +kernel
theorem dl_1167 : decode code 1167 = .ok (.iadd, 1) := by decide +kernel
theorem dl_1168 : decode code 1168 = .ok (.iaload, 1) := by decide +kernel
theorem dl_1169 : decode code 1169 = .ok (.invokevirtual 144, 3) := by decide +kernel
theorem dl_1172 : decode code 1172 = .ok (.if_icmp .eq 180, 3) := by decide +kernel
theorem dl_1175 : decode code 1175 = .ok (.iconst 0, 1) := by decide +kernel
theorem dl_1176 : decode code 1176 = .ok (.ireturn, 1) := by decide +kernel
theorem dl_1177 : decode code 1177 = .ok (.aload_n 1, 1) := by decide +kernel
theorem dl_1178 : decode code 1178 = .ok (.aload_n 0, 1) := by decide +kernel
theorem dl_1179 : decode code 1179 = .ok (.iload_n 3, 1) := by decide +kernel
theorem dl_1180 : decode code 1180 = .ok (.iconst 1, 1) := by decide +kernel
theorem dl_1181 : decode code 1181 = .ok (.iadd, 1) := by decide +kernel
theorem dl_1182 : decode code 1182 = .ok (.iaload, 1) := by decide +kernel
theorem dl_1183 : decode code 1183 = .ok (.invokevirtual 145, 3) := by decide +kernel
theorem dl_1186 : decode code 1186 = .ok (.aload_n 2, 1) := by decide +kernel
theorem dl_1187 : decode code 1187 = .ok (.aload_n 0, 1) := by decide +kernel
theorem dl_1188 : decode code 1188 = .ok (.iload_n 3, 1) := by decide +kernel
theorem dl_1189 : decode code 1189 = .ok (.iconst 1, 1) := by decide +kernel
theorem dl_1190 : decode code 1190 = .ok (.iadd, 1) := by decide +kernel
theorem dl_1191 : decode code 1191 = .ok (.iaload, 1) := by decide +kernel
theorem dl_1192 : decode code 1192 = .ok (.invokevirtual 148, 3) := by decide +kernel
theorem dl_1195 : decode code 1195 = .ok (.if_icmp .eq 157, 3) := by decide +kernel
theorem dl_1198 : decode code 1198 = .ok (.iconst 0, 1) := by decide +kernel
theorem dl_1199 : decode code 1199 = .ok (.ireturn, 1) := by decide +kernel
theorem dl_1200 : decode code 1200 = .ok (.aload_n 1, 1) := by decide +kernel
theorem dl_1201 : decode code 1201 = .ok (.aload_n 0, 1) := by decide +kernel
theorem dl_1202 : decode code 1202 = .ok (.iload_n 3, 1) := by decide +kernel
theorem dl_1203 : decode code 1203 = .ok (.iconst 1, 1) := by decide +kernel
theorem dl_1204 : decode code 1204 = .ok (.iadd, 1) := by decide +kernel
theorem dl_1205 : decode code 1205 = .ok (.iaload, 1) := by decide +kernel
theorem dl_1206 : decode code 1206 = .ok (.aload_n 0, 1) := by decide +kernel
theorem dl_1207 : decode code 1207 = .ok (.iload_n 3, 1) := by decide +kernel
theorem dl_1208 : decode code 1208 = .ok (.iconst 2, 1) := by decide +kernel
theorem dl_1209 : decode code 1209 = .ok (.iadd, 1) := by decide +kernel
theorem dl_1210 : decode code 1210 = .ok (.iaload, 1) := by decide +kernel
theorem dl_1211 : decode code 1211 = .ok (.invokevirtual 149, 3) := by decide +kernel
theorem dl_1214 : decode code 1214 = .ok (.aload_n 2, 1) := by decide +kernel
theorem dl_1215 : decode code 1215 = .ok (.aload_n 0, 1) := by decide +kernel
theorem dl_1216 : decode code 1216 = .ok (.iload_n 3, 1) := by decide +kernel
theorem dl_1217 : decode code 1217 = .ok (.iconst 1, 1) := by decide +kernel
theorem dl_1218 : decode code 1218 = .ok (.iadd, 1) := by decide +kernel
theorem dl_1219 : decode code 1219 = .ok (.iaload, 1) := by decide +kernel
theorem dl_1220 : decode code 1220 = .ok (.aload_n 0, 1) := by decide +kernel
theorem dl_1221 : decode code 1221 = .ok (.iload_n 3, 1) := by decide +kernel
theorem dl_1222 : decode code 1222 = .ok (.iconst 2, 1) := by decide +kernel
theorem dl_1223 : decode code 1223 = .ok (.iadd, 1) := by decide +kernel
theorem dl_1224 : decode code 1224 = .ok (.iaload, 1) := by decide +kernel
theorem dl_1225 : decode code 1225 = .ok (.invokevirtual 152, 3) := by decide +kernel
theorem dl_1228 : decode code 1228 = .ok (.if_icmp .eq 124, 3) := by decide +kernel
theorem dl_1231 : decode code 1231 = .ok (.iconst 0, 1) := by decide +kernel
theorem dl_1232 : decode code 1232 = .ok (.ireturn, 1) := by decide +kernel
theorem dl_1233 : decode code 1233 = .ok (.aload_n 1, 1) := by decide +kernel
theorem dl_1234 : decode code 1234 = .ok (.aload_n 0, 1) := by decide +kernel
theorem dl_1235 : decode code 1235 = .ok (.iload_n 3, 1) := by decide +kernel
theorem dl_1236 : decode code 1236 = .ok (.iconst 1, 1) := by decide +kernel
theorem dl_1237 : decode code 1237 = .ok (.iadd, 1) := by decide +kernel
theorem dl_1238 : decode code 1238 = .ok (.iaload, 1) := by decide +kernel
theorem dl_1239 : decode code 1239 = .ok (.invokevirtual 153, 3) := by decide +kernel
theorem dl_1242 : decode code 1242 = .ok (.aload_n 2, 1) := by decide +kernel
theorem dl_1243 : decode code 1243 = .ok (.aload_n 0, 1) := by decide +kernel
theorem dl_1244 : decode code 1244 = .ok (.iload_n 3, 1) := by decide +kernel
theorem dl_1245 : decode code 1245 = .ok (.iconst 1, 1) := by decide +kernel
theorem dl_1246 : decode code 1246 = .ok (.iadd, 1) := by decide +kernel
theorem dl_1247 : decode code 1247 = .ok (.iaload, 1) := by decide +kernel
theorem dl_1248 : decode code 1248 = .ok (.invokevirtual 156, 3) := by decide +kernel
theorem dl_1251 : decode code 1251 = .ok (.if_icmp .eq 101, 3) := by decide +kernel
theorem dl_1254 : decode code 1254 = .ok (.iconst 0, 1) := by decide +kernel
theorem dl_1255 : decode code 1255 = .ok (.ireturn, 1) := by decide +kernel
theorem dl_1256 : decode code 1256 = .ok (.aload_n 1, 1) := by decide +kernel
theorem dl_1257 : decode code 1257 = .ok (.aload_n 0, 1) := by decide +kernel
theorem dl_1258 : decode code 1258 = .ok (.iload_n 3, 1) := by decide +kernel
theorem dl_1259 : decode code 1259 = .ok (.iconst 1, 1) := by decide +kernel
theorem dl_1260 : decode code 1260 = .ok (.iadd, 1) := by decide +kernel
theorem dl_1261 : decode code 1261 = .ok (.iaload, 1) := by decide +kernel
theorem dl_1262 : decode code 1262 = .ok (.invokevirtual 157, 3) := by decide +kernel
theorem dl_1265 : decode code 1265 = .ok (.aload_n 2, 1) := by decide +kernel
theorem dl_1266 : decode code 1266 = .ok (.aload_n 0, 1) := by decide +kernel
theorem dl_1267 : decode code 1267 = .ok (.iload_n 3, 1) := by decide +kernel
theorem dl_1268 : decode code 1268 = .ok (.iconst 1, 1) := by decide +kernel
theorem dl_1269 : decode code 1269 = .ok (.iadd, 1) := by decide +kernel
theorem dl_1270 : decode code 1270 = .ok (.iaload, 1) := by decide +kernel
theorem dl_1271 : decode code 1271 = .ok (.invokevirtual 160, 3) := by decide +kernel
theorem dl_1274 : decode code 1274 = .ok (.if_icmp .eq 78, 3) := by decide +kernel
theorem dl_1277 : decode code 1277 = .ok (.iconst 0, 1) := by decide +kernel
theorem dl_1278 : decode code 1278 = .ok (.ireturn, 1) := by decide +kernel
theorem dl_1279 : decode code 1279 = .ok (.aload_n 1, 1) := by decide +kernel
theorem dl_1280 : decode code 1280 = .ok (.invokevirtual 161, 3) := by decide +kernel
theorem dl_1283 : decode code 1283 = .ok (.aload_n 2, 1) := by decide +kernel
theorem dl_1284 : decode code 1284 = .ok (.invokevirtual 164, 3) := by decide +kernel
theorem dl_1287 : decode code 1287 = .ok (.if_icmp .eq 65, 3) := by decide +kernel
theorem dl_1290 : decode code 1290 = .ok (.iconst 0, 1) := by decide +kernel
theorem dl_1291 : decode code 1291 = .ok (.ireturn, 1) := by decide +kernel
theorem dl_1292 : decode code 1292 = .ok (.aload_n 1, 1) := by decide +kernel
theorem dl_1293 : decode code 1293 = .ok (.aload_n 0, 1) := by decide +kernel
theorem dl_1294 : decode code 1294 = .ok (.iload_n 3, 1) := by decide +kernel
theorem dl_1295 : decode code 1295 = .ok (.iconst 1, 1) := by decide +kernel
theorem dl_1296 : decode code 1296 = .ok (.iadd, 1) := by decide +kernel
theorem dl_1297 : decode code 1297 = .ok (.iaload, 1) := by decide +kernel
theorem dl_1298 : decode code 1298 = .ok (.invokevirtual 165, 3) := by decide +kernel
theorem dl_1301 : decode code 1301 = .ok (.aload_n 2, 1) := by decide +kernel
theorem dl_1302 : decode code 1302 = .ok (.aload_n 0, 1) := by decide +kernel
theorem dl_1303 : decode code 1303 = .ok (.iload_n 3, 1) := by decide +kernel
theorem dl_1304 : decode code 1304 = .ok (.iconst 1, 1) := by decide +kernel
theorem dl_1305 : decode code 1305 = .ok (.iadd, 1) := by decide +kernel
theorem dl_1306 : decode code 1306 = .ok (.iaload, 1) := by decide +kernel
theorem dl_1307 : decode code 1307 = .ok (.invokevirtual 168, 3) := by decide +kernel
theorem dl_1310 : decode code 1310 = .ok (.if_icmp .eq 42, 3) := by decide +kernel
theorem dl_1313 : decode code 1313 = .ok (.iconst 0, 1) := by decide +kernel
theorem dl_1314 : decode code 1314 = .ok (.ireturn, 1) := by decide +kernel
theorem dl_1315 : decode code 1315 = .ok (.aload_n 1, 1) := by decide +kernel
theorem dl_1316 : decode code 1316 = .ok (.aload_n 0, 1) := by decide +kernel
theorem dl_1317 : decode code 1317 = .ok (.iload_n 3, 1) := by decide +kernel
theorem dl_1318 : decode code 1318 = .ok (.iconst 1, 1) := by decide +kernel
theorem dl_1319 : decode code 1319 = .ok (.iadd, 1) := by decide +kernel
theorem dl_1320 : decode code 1320 = .ok (.iaload, 1) := by decide +kernel
theorem dl_1321 : decode code 1321 = .ok (.invokevirtual 169, 3) := by decide +kernel
theorem dl_1324 : decode code 1324 = .ok (.aload_n 2, 1) := by decide +kernel
theorem dl_1325 : decode code 1325 = .ok (.aload_n 0, 1) := by decide +kernel
theorem dl_1326 : decode code 1326 = .ok (.iload_n 3, 1) := by decide +kernel
theorem dl_1327 : decode code 1327 = .ok (.iconst 1, 1) := by decide +kernel
theorem dl_1328 : decode code 1328 = .ok (.iadd, 1) := by decide +kernel
theorem dl_1329 : decode code 1329 = .ok (.iaload, 1) := by decide +kernel
theorem dl_1330 : decode code 1330 = .ok (.invokevirtual 172, 3) := by decide +kernel
theorem dl_1333 : decode code 1333 = .ok (.if_icmp .eq 19, 3) := by decide +kernel
theorem dl_1336 : decode code 1336 = .ok (.iconst 0, 1) := by decide +kernel
theorem dl_1337 : decode code 1337 = .ok (.ireturn, 1) := by decide +kernel
theorem dl_1338 : decode code 1338 = .ok (.aload_n 1, 1) := by decide +kernel
theorem dl_1339 : decode code 1339 = .ok (.invokevirtual 173, 3) := by decide +kernel
theorem dl_1342 : decode code 1342 = .ok (.aload_n 2, 1) := by decide +kernel
theorem dl_1343 : decode code 1343 = .ok (.invokevirtual 177, 3) := by decide +kernel
theorem dl_1346 : decode code 1346 = .ok (.lcmp, 1) := by decide +kernel
theorem dl_1347 : decode code 1347 = .ok (.ifCond .eq 5, 3) := by decide +kernel
theorem dl_1350 : decode code 1350 = .ok (.iconst 0, 1) := by decide +kernel
theorem dl_1351 : decode code 1351 = .ok (.ireturn, 1) := by decide +kernel
theorem dl_1352 : decode code 1352 = .ok (.iinc 3 5, 3) := by decide +kernel
theorem dl_1355 : decode code 1355 = .ok (.goto (-1337), 3) := by decide +kernel
theorem dl_1358 : decode code 1358 = .ok (.iconst 1, 1) := by decide +kernel
theorem dl_1359 : decode code 1359 = .ok (.ireturn, 1) := by decide +kernel
