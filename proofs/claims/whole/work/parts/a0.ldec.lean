/-! ===== the law: its instructions ===== -/
theorem dL_0 : decode code 0 = .ok (.new 7, 3) := by decide +kernel
theorem dL_3 : decode code 3 = .ok (.dup, 1) := by decide +kernel
theorem dL_4 : decode code 4 = .ok (.invokespecial 9, 3) := by decide +kernel
theorem dL_7 : decode code 7 = .ok (.astore_n 1, 1) := by decide +kernel
theorem dL_8 : decode code 8 = .ok (.new 10, 3) := by decide +kernel
theorem dL_11 : decode code 11 = .ok (.dup, 1) := by decide +kernel
theorem dL_12 : decode code 12 = .ok (.invokespecial 12, 3) := by decide +kernel
theorem dL_15 : decode code 15 = .ok (.astore_n 2, 1) := by decide +kernel
theorem dL_16 : decode code 16 = .ok (.iconst 0, 1) := by decide +kernel
theorem dL_17 : decode code 17 = .ok (.istore_n 3, 1) := by decide +kernel
theorem dL_18 : decode code 18 = .ok (.iload_n 3, 1) := by decide +kernel
theorem dL_19 : decode code 19 = .ok (.aload_n 0, 1) := by decide +kernel
theorem dL_20 : decode code 20 = .ok (.arraylength, 1) := by decide +kernel
theorem dL_21 : decode code 21 = .ok (.bipush 6, 2) := by decide +kernel
theorem dL_23 : decode code 23 = .ok (.isub, 1) := by decide +kernel
theorem dL_24 : decode code 24 = .ok (.if_icmp .gt 1124, 3) := by decide +kernel
theorem dL_27 : decode code 27 = .ok (.aload_n 0, 1) := by decide +kernel
theorem dL_28 : decode code 28 = .ok (.iload_n 3, 1) := by decide +kernel
theorem dL_29 : decode code 29 = .ok (.iaload, 1) := by decide +kernel
theorem dL_30 : decode code 30 = .ok (.bipush 63, 2) := by decide +kernel
theorem dL_32 : decode code 32 = .ok (.iand, 1) := by decide +kernel
theorem dL_33 : decode code 33 = .ok (.tableswitch 1109 0 38 #[171, 204, 237, 280, 303, 336, 399, 422, 435, 448, 461, 474, 487, 500, 523, 556, 579, 612, 625, 638, 661, 684, 707, 720, 743, 766, 789, 812, 855, 868, 881, 904, 938, 961, 994, 1027, 1050, 1073, 1096], 171) := by decide +kernel
theorem dL_204 : decode code 204 = .ok (.aload_n 1, 1) := by decide +kernel
theorem dL_205 : decode code 205 = .ok (.aload_n 0, 1) := by decide +kernel
theorem dL_206 : decode code 206 = .ok (.iload_n 3, 1) := by decide +kernel
theorem dL_207 : decode code 207 = .ok (.iconst 1, 1) := by decide +kernel
theorem dL_208 : decode code 208 = .ok (.iadd, 1) := by decide +kernel
theorem dL_209 : decode code 209 = .ok (.iaload, 1) := by decide +kernel
theorem dL_210 : decode code 210 = .ok (.aload_n 0, 1) := by decide +kernel
theorem dL_211 : decode code 211 = .ok (.iload_n 3, 1) := by decide +kernel
theorem dL_212 : decode code 212 = .ok (.iconst 2, 1) := by decide +kernel
theorem dL_213 : decode code 213 = .ok (.iadd, 1) := by decide +kernel
theorem dL_214 : decode code 214 = .ok (.iaload, 1) := by decide +kernel
theorem dL_215 : decode code 215 = .ok (.invokevirtual 13, 3) := by decide +kernel
theorem dL_218 : decode code 218 = .ok (.aload_n 2, 1) := by decide +kernel
theorem dL_219 : decode code 219 = .ok (.aload_n 0, 1) := by decide +kernel
theorem dL_220 : decode code 220 = .ok (.iload_n 3, 1) := by decide +kernel
theorem dL_221 : decode code 221 = .ok (.iconst 1, 1) := by decide +kernel
theorem dL_222 : decode code 222 = .ok (.iadd, 1) := by decide +kernel
theorem dL_223 : decode code 223 = .ok (.iaload, 1) := by decide +kernel
theorem dL_224 : decode code 224 = .ok (.aload_n 0, 1) := by decide +kernel
theorem dL_225 : decode code 225 = .ok (.iload_n 3, 1) := by decide +kernel
theorem dL_226 : decode code 226 = .ok (.iconst 2, 1) := by decide +kernel
theorem dL_227 : decode code 227 = .ok (.iadd, 1) := by decide +kernel
theorem dL_228 : decode code 228 = .ok (.iaload, 1) := by decide +kernel
theorem dL_229 : decode code 229 = .ok (.invokevirtual 17, 3) := by decide +kernel
theorem dL_232 : decode code 232 = .ok (.if_icmp .eq 910, 3) := by decide +kernel
theorem dL_235 : decode code 235 = .ok (.iconst 0, 1) := by decide +kernel
theorem dL_236 : decode code 236 = .ok (.ireturn, 1) := by decide +kernel
theorem dL_237 : decode code 237 = .ok (.aload_n 1, 1) := by decide +kernel
theorem dL_238 : decode code 238 = .ok (.aload_n 0, 1) := by decide +kernel
theorem dL_239 : decode code 239 = .ok (.iload_n 3, 1) := by decide +kernel
theorem dL_240 : decode code 240 = .ok (.iconst 1, 1) := by decide +kernel
theorem dL_241 : decode code 241 = .ok (.iadd, 1) := by decide +kernel
theorem dL_242 : decode code 242 = .ok (.iaload, 1) := by decide +kernel
theorem dL_243 : decode code 243 = .ok (.aload_n 0, 1) := by decide +kernel
theorem dL_244 : decode code 244 = .ok (.iload_n 3, 1) := by decide +kernel
theorem dL_245 : decode code 245 = .ok (.iconst 2, 1) := by decide +kernel
theorem dL_246 : decode code 246 = .ok (.iadd, 1) := by decide +kernel
theorem dL_247 : decode code 247 = .ok (.iaload, 1) := by decide +kernel
theorem dL_248 : decode code 248 = .ok (.invokevirtual 18, 3) := by decide +kernel
theorem dL_251 : decode code 251 = .ok (.aload_n 2, 1) := by decide +kernel
theorem dL_252 : decode code 252 = .ok (.aload_n 0, 1) := by decide +kernel
theorem dL_253 : decode code 253 = .ok (.iload_n 3, 1) := by decide +kernel
theorem dL_254 : decode code 254 = .ok (.iconst 1, 1) := by decide +kernel
theorem dL_255 : decode code 255 = .ok (.iadd, 1) := by decide +kernel
theorem dL_256 : decode code 256 = .ok (.iaload, 1) := by decide +kernel
theorem dL_257 : decode code 257 = .ok (.aload_n 0, 1) := by decide +kernel
theorem dL_258 : decode code 258 = .ok (.iload_n 3, 1) := by decide +kernel
theorem dL_259 : decode code 259 = .ok (.iconst 2, 1) := by decide +kernel
theorem dL_260 : decode code 260 = .ok (.iadd, 1) := by decide +kernel
theorem dL_261 : decode code 261 = .ok (.iaload, 1) := by decide +kernel
theorem dL_262 : decode code 262 = .ok (.invokevirtual 21, 3) := by decide +kernel
theorem dL_265 : decode code 265 = .ok (.if_icmp .eq 877, 3) := by decide +kernel
theorem dL_268 : decode code 268 = .ok (.iconst 0, 1) := by decide +kernel
theorem dL_269 : decode code 269 = .ok (.ireturn, 1) := by decide +kernel
theorem dL_270 : decode code 270 = .ok (.aload_n 1, 1) := by decide +kernel
theorem dL_271 : decode code 271 = .ok (.aload_n 0, 1) := by decide +kernel
theorem dL_272 : decode code 272 = .ok (.iload_n 3, 1) := by decide +kernel
theorem dL_273 : decode code 273 = .ok (.iconst 1, 1) := by decide +kernel
theorem dL_274 : decode code 274 = .ok (.iadd, 1) := by decide +kernel
theorem dL_275 : decode code 275 = .ok (.iaload, 1) := by decide +kernel
theorem dL_276 : decode code 276 = .ok (.aload_n 0, 1) := by decide +kernel
theorem dL_277 : decode code 277 = .ok (.iload_n 3, 1) := by decide +kernel
theorem dL_278 : decode code 278 = .ok (.iconst 2, 1) := by decide +kernel
theorem dL_279 : decode code 279 = .ok (.iadd, 1) := by decide +kernel
theorem dL_280 : decode code 280 = .ok (.iaload, 1) := by decide +kernel
theorem dL_281 : decode code 281 = .ok (.aload_n 0, 1) := by decide +kernel
theorem dL_282 : decode code 282 = .ok (.iload_n 3, 1) := by decide +kernel
theorem dL_283 : decode code 283 = .ok (.iconst 3, 1) := by decide +kernel
theorem dL_284 : decode code 284 = .ok (.iadd, 1) := by decide +kernel
theorem dL_285 : decode code 285 = .ok (.iaload, 1) := by decide +kernel
theorem dL_286 : decode code 286 = .ok (.invokevirtual 22, 3) := by decide +kernel
theorem dL_289 : decode code 289 = .ok (.aload_n 2, 1) := by decide +kernel
theorem dL_290 : decode code 290 = .ok (.aload_n 0, 1) := by decide +kernel
theorem dL_291 : decode code 291 = .ok (.iload_n 3, 1) := by decide +kernel
theorem dL_292 : decode code 292 = .ok (.iconst 1, 1) := by decide +kernel
theorem dL_293 : decode code 293 = .ok (.iadd, 1) := by decide +kernel
theorem dL_294 : decode code 294 = .ok (.iaload, 1) := by decide +kernel
theorem dL_295 : decode code 295 = .ok (.aload_n 0, 1) := by decide +kernel
theorem dL_296 : decode code 296 = .ok (.iload_n 3, 1) := by decide +kernel
theorem dL_297 : decode code 297 = .ok (.iconst 2, 1) := by decide +kernel
theorem dL_298 : decode code 298 = .ok (.iadd, 1) := by decide +kernel
theorem dL_299 : decode code 299 = .ok (.iaload, 1) := by decide +kernel
theorem dL_300 : decode code 300 = .ok (.aload_n 0, 1) := by decide +kernel
theorem dL_301 : decode code 301 = .ok (.iload_n 3, 1) := by decide +kernel
theorem dL_302 : decode code 302 = .ok (.iconst 3, 1) := by decide +kernel
theorem dL_303 : decode code 303 = .ok (.iadd, 1) := by decide +kernel
theorem dL_304 : decode code 304 = .ok (.iaload, 1) := by decide +kernel
theorem dL_305 : decode code 305 = .ok (.invokevirtual 26, 3) := by decide +kernel
theorem dL_308 : decode code 308 = .ok (.if_icmp .eq 834, 3) := by decide +kernel
theorem dL_311 : decode code 311 = .ok (.iconst 0, 1) := by decide +kernel
theorem dL_312 : decode code 312 = .ok (.ireturn, 1) := by decide +kernel
theorem dL_313 : decode code 313 = .ok (.aload_n 1, 1) := by decide +kernel
theorem dL_314 : decode code 314 = .ok (.aload_n 0, 1) := by decide +kernel
theorem dL_315 : decode code 315 = .ok (.iload_n 3, 1) := by decide +kernel
theorem dL_316 : decode code 316 = .ok (.iconst 1, 1) := by decide +kernel
theorem dL_317 : decode code 317 = .ok (.iadd, 1) := by decide +kernel
theorem dL_318 : decode code 318 = .ok (.iaload, 1) := by decide +kernel
theorem dL_319 : decode code 319 = .ok (.invokevirtual 27, 3) := by decide +kernel
theorem dL_322 : decode code 322 = .ok (.aload_n 2, 1) := by decide +kernel
theorem dL_323 : decode code 323 = .ok (.aload_n 0, 1) := by decide +kernel
theorem dL_324 : decode code 324 = .ok (.iload_n 3, 1) := by decide +kernel
theorem dL_325 : decode code 325 = .ok (.iconst 1, 1) := by decide +kernel
theorem dL_326 : decode code 326 = .ok (.iadd, 1) := by decide +kernel
theorem dL_327 : decode code 327 = .ok (.iaload, 1) := by decide +kernel
theorem dL_328 : decode code 328 = .ok (.invokevirtual 31, 3) := by decide +kernel
theorem dL_331 : decode code 331 = .ok (.if_icmp .eq 811, 3) := by decide +kernel
theorem dL_334 : decode code 334 = .ok (.iconst 0, 1) := by decide +kernel
theorem dL_335 : decode code 335 = .ok (.ireturn, 1) := by decide +kernel
theorem dL_336 : decode code 336 = .ok (.aload_n 1, 1) := by decide +kernel
theorem dL_337 : decode code 337 = .ok (.aload_n 0, 1) := by decide +kernel
theorem dL_338 : decode code 338 = .ok (.iload_n 3, 1) := by decide +kernel
theorem dL_339 : decode code 339 = .ok (.iconst 1, 1) := by decide +kernel
theorem dL_340 : decode code 340 = .ok (.iadd, 1) := by decide +kernel
theorem dL_341 : decode code 341 = .ok (.iaload, 1) := by decide +kernel
theorem dL_342 : decode code 342 = .ok (.aload_n 0, 1) := by decide +kernel
theorem dL_343 : decode code 343 = .ok (.iload_n 3, 1) := by decide +kernel
theorem dL_344 : decode code 344 = .ok (.iconst 2, 1) := by decide +kernel
theorem dL_345 : decode code 345 = .ok (.iadd, 1) := by decide +kernel
theorem dL_346 : decode code 346 = .ok (.iaload, 1) := by decide +kernel
theorem dL_347 : decode code 347 = .ok (.invokevirtual 32, 3) := by decide +kernel
theorem dL_350 : decode code 350 = .ok (.aload_n 2, 1) := by decide +kernel
theorem dL_351 : decode code 351 = .ok (.aload_n 0, 1) := by decide +kernel
theorem dL_352 : decode code 352 = .ok (.iload_n 3, 1) := by decide +kernel
theorem dL_353 : decode code 353 = .ok (.iconst 1, 1) := by decide +kernel
theorem dL_354 : decode code 354 = .ok (.iadd, 1) := by decide +kernel
theorem dL_355 : decode code 355 = .ok (.iaload, 1) := by decide +kernel
theorem dL_356 : decode code 356 = .ok (.aload_n 0, 1) := by decide +kernel
theorem dL_357 : decode code 357 = .ok (.iload_n 3, 1) := by decide +kernel
theorem dL_358 : decode code 358 = .ok (.iconst 2, 1) := by decide +kernel
theorem dL_359 : decode code 359 = .ok (.iadd, 1) := by decide +kernel
theorem dL_360 : decode code 360 = .ok (.iaload, 1) := by decide +kernel
theorem dL_361 : decode code 361 = .ok (.invokevirtual 35, 3) := by decide +kernel
theorem dL_364 : decode code 364 = .ok (.if_icmp .eq 778, 3) := by decide +kernel
theorem dL_367 : decode code 367 = .ok (.iconst 0, 1) := by decide +kernel
theorem dL_368 : decode code 368 = .ok (.ireturn, 1) := by decide +kernel
theorem dL_369 : decode code 369 = .ok (.aload_n 1, 1) := by decide +kernel
theorem dL_370 : decode code 370 = .ok (.aload_n 0, 1) := by decide +kernel
theorem dL_371 : decode code 371 = .ok (.iload_n 3, 1) := by decide +kernel
theorem dL_372 : decode code 372 = .ok (.iconst 1, 1) := by decide +kernel
theorem dL_373 : decode code 373 = .ok (.iadd, 1) := by decide +kernel
theorem dL_374 : decode code 374 = .ok (.iaload, 1) := by decide +kernel
theorem dL_375 : decode code 375 = .ok (.aload_n 0, 1) := by decide +kernel
theorem dL_376 : decode code 376 = .ok (.iload_n 3, 1) := by decide +kernel
theorem dL_377 : decode code 377 = .ok (.iconst 2, 1) := by decide +kernel
theorem dL_378 : decode code 378 = .ok (.iadd, 1) := by decide +kernel
theorem dL_379 : decode code 379 = .ok (.iaload, 1) := by decide +kernel
theorem dL_380 : decode code 380 = .ok (.aload_n 0, 1) := by decide +kernel
theorem dL_381 : decode code 381 = .ok (.iload_n 3, 1) := by decide +kernel
theorem dL_382 : decode code 382 = .ok (.iconst 3, 1) := by decide +kernel
theorem dL_383 : decode code 383 = .ok (.iadd, 1) := by decide +kernel
theorem dL_384 : decode code 384 = .ok (.iaload, 1) := by decide +kernel
theorem dL_385 : decode code 385 = .ok (.aload_n 0, 1) := by decide +kernel
theorem dL_386 : decode code 386 = .ok (.iload_n 3, 1) := by decide +kernel
theorem dL_387 : decode code 387 = .ok (.iconst 4, 1) := by decide +kernel
theorem dL_388 : decode code 388 = .ok (.iadd, 1) := by decide +kernel
theorem dL_389 : decode code 389 = .ok (.iaload, 1) := by decide +kernel
theorem dL_390 : decode code 390 = .ok (.aload_n 0, 1) := by decide +kernel
theorem dL_391 : decode code 391 = .ok (.iload_n 3, 1) := by decide +kernel
theorem dL_392 : decode code 392 = .ok (.iconst 5, 1) := by decide +kernel
theorem dL_393 : decode code 393 = .ok (.iadd, 1) := by decide +kernel
theorem dL_394 : decode code 394 = .ok (.iaload, 1) := by decide +kernel
theorem dL_395 : decode code 395 = .ok (.invokevirtual 36, 3) := by decide +kernel
theorem dL_398 : decode code 398 = .ok (.aload_n 2, 1) := by decide +kernel
theorem dL_399 : decode code 399 = .ok (.aload_n 0, 1) := by decide +kernel
theorem dL_400 : decode code 400 = .ok (.iload_n 3, 1) := by decide +kernel
theorem dL_401 : decode code 401 = .ok (.iconst 1, 1) := by decide +kernel
theorem dL_402 : decode code 402 = .ok (.iadd, 1) := by decide +kernel
theorem dL_403 : decode code 403 = .ok (.iaload, 1) := by decide +kernel
theorem dL_404 : decode code 404 = .ok (.aload_n 0, 1) := by decide +kernel
theorem dL_405 : decode code 405 = .ok (.iload_n 3, 1) := by decide +kernel
theorem dL_406 : decode code 406 = .ok (.iconst 2, 1) := by decide +kernel
theorem dL_407 : decode code 407 = .ok (.iadd, 1) := by decide +kernel
theorem dL_408 : decode code 408 = .ok (.iaload, 1) := by decide +kernel
theorem dL_409 : decode code 409 = .ok (.aload_n 0, 1) := by decide +kernel
theorem dL_410 : decode code 410 = .ok (.iload_n 3, 1) := by decide +kernel
theorem dL_411 : decode code 411 = .ok (.iconst 3, 1) := by decide +kernel
theorem dL_412 : decode code 412 = .ok (.iadd, 1) := by decide +kernel
theorem dL_413 : decode code 413 = .ok (.iaload, 1) := by decide +kernel
theorem dL_414 : decode code 414 = .ok (.aload_n 0, 1) := by decide +kernel
theorem dL_415 : decode code 415 = .ok (.iload_n 3, 1) := by decide +kernel
theorem dL_416 : decode code 416 = .ok (.iconst 4, 1) := by decide +kernel
theorem dL_417 : decode code 417 = .ok (.iadd, 1) := by decide +kernel
theorem dL_418 : decode code 418 = .ok (.iaload, 1) := by decide +kernel
theorem dL_419 : decode code 419 = .ok (.aload_n 0, 1) := by decide +kernel
theorem dL_420 : decode code 420 = .ok (.iload_n 3, 1) := by decide +kernel
theorem dL_421 : decode code 421 = .ok (.iconst 5, 1) := by decide +kernel
theorem dL_422 : decode code 422 = .ok (.iadd, 1) := by decide +kernel
theorem dL_423 : decode code 423 = .ok (.iaload, 1) := by decide +kernel
theorem dL_424 : decode code 424 = .ok (.invokevirtual 40, 3) := by decide +kernel
theorem dL_427 : decode code 427 = .ok (.if_icmp .eq 715, 3) := by decide +kernel
theorem dL_430 : decode code 430 = .ok (.iconst 0, 1) := by decide +kernel
theorem dL_431 : decode code 431 = .ok (.ireturn, 1) := by decide +kernel
theorem dL_432 : decode code 432 = .ok (.aload_n 1, 1) := by decide +kernel
theorem dL_433 : decode code 433 = .ok (.aload_n 0, 1) := by decide +kernel
theorem dL_434 : decode code 434 = .ok (.iload_n 3, 1) := by decide +kernel
theorem dL_435 : decode code 435 = .ok (.iconst 1, 1) := by decide +kernel
theorem dL_436 : decode code 436 = .ok (.iadd, 1) := by decide +kernel
theorem dL_437 : decode code 437 = .ok (.iaload, 1) := by decide +kernel
theorem dL_438 : decode code 438 = .ok (.invokevirtual 41, 3) := by decide +kernel
theorem dL_441 : decode code 441 = .ok (.aload_n 2, 1) := by decide +kernel
theorem dL_442 : decode code 442 = .ok (.aload_n 0, 1) := by decide +kernel
theorem dL_443 : decode code 443 = .ok (.iload_n 3, 1) := by decide +kernel
theorem dL_444 : decode code 444 = .ok (.iconst 1, 1) := by decide +kernel
theorem dL_445 : decode code 445 = .ok (.iadd, 1) := by decide +kernel
theorem dL_446 : decode code 446 = .ok (.iaload, 1) := by decide +kernel
theorem dL_447 : decode code 447 = .ok (.invokevirtual 44, 3) := by decide +kernel
theorem dL_450 : decode code 450 = .ok (.if_icmp .eq 692, 3) := by decide +kernel
theorem dL_453 : decode code 453 = .ok (.iconst 0, 1) := by decide +kernel
theorem dL_454 : decode code 454 = .ok (.ireturn, 1) := by decide +kernel
theorem dL_455 : decode code 455 = .ok (.aload_n 1, 1) := by decide +kernel
theorem dL_456 : decode code 456 = .ok (.invokevirtual 45, 3) := by decide +kernel
theorem dL_459 : decode code 459 = .ok (.aload_n 2, 1) := by decide +kernel
theorem dL_460 : decode code 460 = .ok (.invokevirtual 49, 3) := by decide +kernel
theorem dL_463 : decode code 463 = .ok (.if_icmp .eq 679, 3) := by decide +kernel
theorem dL_466 : decode code 466 = .ok (.iconst 0, 1) := by decide +kernel
theorem dL_467 : decode code 467 = .ok (.ireturn, 1) := by decide +kernel
theorem dL_468 : decode code 468 = .ok (.aload_n 1, 1) := by decide +kernel
theorem dL_469 : decode code 469 = .ok (.invokevirtual 50, 3) := by decide +kernel
theorem dL_472 : decode code 472 = .ok (.aload_n 2, 1) := by decide +kernel
theorem dL_473 : decode code 473 = .ok (.invokevirtual 53, 3) := by decide +kernel
theorem dL_476 : decode code 476 = .ok (.if_icmp .eq 666, 3) := by decide +kernel
theorem dL_479 : decode code 479 = .ok (.iconst 0, 1) := by decide +kernel
theorem dL_480 : decode code 480 = .ok (.ireturn, 1) := by decide +kernel
theorem dL_481 : decode code 481 = .ok (.aload_n 1, 1) := by decide +kernel
theorem dL_482 : decode code 482 = .ok (.invokevirtual 54, 3) := by decide +kernel
theorem dL_485 : decode code 485 = .ok (.aload_n 2, 1) := by decide +kernel
theorem dL_486 : decode code 486 = .ok (.invokevirtual 57, 3) := by decide +kernel
theorem dL_489 : decode code 489 = .ok (.if_icmp .eq 653, 3) := by decide +kernel
theorem dL_492 : decode code 492 = .ok (.iconst 0, 1) := by decide +kernel
theorem dL_493 : decode code 493 = .ok (.ireturn, 1) := by decide +kernel
theorem dL_494 : decode code 494 = .ok (.aload_n 1, 1) := by decide +kernel
theorem dL_495 : decode code 495 = .ok (.invokevirtual 58, 3) := by decide +kernel
theorem dL_498 : decode code 498 = .ok (.aload_n 2, 1) := by decide +kernel
theorem dL_499 : decode code 499 = .ok (.invokevirtual 61, 3) := by decide +kernel
theorem dL_502 : decode code 502 = .ok (.if_icmp .eq 640, 3) := by decide +kernel
theorem dL_505 : decode code 505 = .ok (.iconst 0, 1) := by decide +kernel
theorem dL_506 : decode code 506 = .ok (.ireturn, 1) := by decide +kernel
theorem dL_507 : decode code 507 = .ok (.aload_n 1, 1) := by decide +kernel
theorem dL_508 : decode code 508 = .ok (.invokevirtual 62, 3) := by decide +kernel
theorem dL_511 : decode code 511 = .ok (.aload_n 2, 1) := by decide +kernel
theorem dL_512 : decode code 512 = .ok (.invokevirtual 65, 3) := by decide +kernel
theorem dL_515 : decode code 515 = .ok (.if_icmp .eq 627, 3) := by decide +kernel
theorem dL_518 : decode code 518 = .ok (.iconst 0, 1) := by decide +kernel
theorem dL_519 : decode code 519 = .ok (.ireturn, 1) := by decide +kernel
theorem dL_520 : decode code 520 = .ok (.aload_n 1, 1) := by decide +kernel
theorem dL_521 : decode code 521 = .ok (.invokevirtual 66, 3) := by decide +kernel
theorem dL_524 : decode code 524 = .ok (.aload_n 2, 1) := by decide +kernel
theorem dL_525 : decode code 525 = .ok (.invokevirtual 69, 3) := by decide +kernel
theorem dL_528 : decode code 528 = .ok (.if_icmp .eq 614, 3) := by decide +kernel
theorem dL_531 : decode code 531 = .ok (.iconst 0, 1) := by decide +kernel
theorem dL_532 : decode code 532 = .ok (.ireturn, 1) := by decide +kernel
theorem dL_533 : decode code 533 = .ok (.aload_n 1, 1) := by decide +kernel
theorem dL_534 : decode code 534 = .ok (.aload_n 0, 1) := by decide +kernel
theorem dL_535 : decode code 535 = .ok (.iload_n 3, 1) := by decide +kernel
theorem dL_536 : decode code 536 = .ok (.iconst 1, 1) := by decide +kernel
theorem dL_537 : decode code 537 = .ok (.iadd, 1) := by decide +kernel
theorem dL_538 : decode code 538 = .ok (.iaload, 1) := by decide +kernel
theorem dL_539 : decode code 539 = .ok (.invokevirtual 70, 3) := by decide +kernel
theorem dL_542 : decode code 542 = .ok (.aload_n 2, 1) := by decide +kernel
theorem dL_543 : decode code 543 = .ok (.aload_n 0, 1) := by decide +kernel
theorem dL_544 : decode code 544 = .ok (.iload_n 3, 1) := by decide +kernel
theorem dL_545 : decode code 545 = .ok (.iconst 1, 1) := by decide +kernel
theorem dL_546 : decode code 546 = .ok (.iadd, 1) := by decide +kernel
theorem dL_547 : decode code 547 = .ok (.iaload, 1) := by decide +kernel
theorem dL_548 : decode code 548 = .ok (.invokevirtual 73, 3) := by decide +kernel
theorem dL_551 : decode code 551 = .ok (.if_icmp .eq 591, 3) := by decide +kernel
theorem dL_554 : decode code 554 = .ok (.iconst 0, 1) := by decide +kernel
theorem dL_555 : decode code 555 = .ok (.ireturn, 1) := by decide +kernel
theorem dL_556 : decode code 556 = .ok (.aload_n 1, 1) := by decide +kernel
theorem dL_557 : decode code 557 = .ok (.aload_n 0, 1) := by decide +kernel
theorem dL_558 : decode code 558 = .ok (.iload_n 3, 1) := by decide +kernel
theorem dL_559 : decode code 559 = .ok (.iconst 1, 1) := by decide +kernel
theorem dL_560 : decode code 560 = .ok (.iadd, 1) := by decide +kernel
theorem dL_561 : decode code 561 = .ok (.iaload, 1) := by decide +kernel
theorem dL_562 : decode code 562 = .ok (.aload_n 0, 1) := by decide +kernel
theorem dL_563 : decode code 563 = .ok (.iload_n 3, 1) := by decide +kernel
theorem dL_564 : decode code 564 = .ok (.iconst 2, 1) := by decide +kernel
theorem dL_565 : decode code 565 = .ok (.iadd, 1) := by decide +kernel
theorem dL_566 : decode code 566 = .ok (.iaload, 1) := by decide +kernel
theorem dL_567 : decode code 567 = .ok (.invokevirtual 74, 3) := by decide +kernel
theorem dL_570 : decode code 570 = .ok (.aload_n 2, 1) := by decide +kernel
theorem dL_571 : decode code 571 = .ok (.aload_n 0, 1) := by decide +kernel
theorem dL_572 : decode code 572 = .ok (.iload_n 3, 1) := by decide +kernel
theorem dL_573 : decode code 573 = .ok (.iconst 1, 1) := by decide +kernel
theorem dL_574 : decode code 574 = .ok (.iadd, 1) := by decide +kernel
theorem dL_575 : decode code 575 = .ok (.iaload, 1) := by decide +kernel
theorem dL_576 : decode code 576 = .ok (.aload_n 0, 1) := by decide +kernel
theorem dL_577 : decode code 577 = .ok (.iload_n 3, 1) := by decide +kernel
theorem dL_578 : decode code 578 = .ok (.iconst 2, 1) := by decide +kernel
theorem dL_579 : decode code 579 = .ok (.iadd, 1) := by decide +kernel
theorem dL_580 : decode code 580 = .ok (.iaload, 1) := by decide +kernel
theorem dL_581 : decode code 581 = .ok (.invokevirtual 77, 3) := by decide +kernel
theorem dL_584 : decode code 584 = .ok (.if_icmp .eq 558, 3) := by decide +kernel
theorem dL_587 : decode code 587 = .ok (.iconst 0, 1) := by decide +kernel
theorem dL_588 : decode code 588 = .ok (.ireturn, 1) := by decide +kernel
theorem dL_589 : decode code 589 = .ok (.aload_n 1, 1) := by decide +kernel
theorem dL_590 : decode code 590 = .ok (.aload_n 0, 1) := by decide +kernel
theorem dL_591 : decode code 591 = .ok (.iload_n 3, 1) := by decide +kernel
theorem dL_592 : decode code 592 = .ok (.iconst 1, 1) := by decide +kernel
theorem dL_593 : decode code 593 = .ok (.iadd, 1) := by decide +kernel
theorem dL_594 : decode code 594 = .ok (.iaload, 1) := by decide +kernel
theorem dL_595 : decode code 595 = .ok (.invokevirtual 78, 3) := by decide +kernel
theorem dL_598 : decode code 598 = .ok (.aload_n 2, 1) := by decide +kernel
theorem dL_599 : decode code 599 = .ok (.aload_n 0, 1) := by decide +kernel
theorem dL_600 : decode code 600 = .ok (.iload_n 3, 1) := by decide +kernel
theorem dL_601 : decode code 601 = .ok (.iconst 1, 1) := by decide +kernel
theorem dL_602 : decode code 602 = .ok (.iadd, 1) := by decide +kernel
theorem dL_603 : decode code 603 = .ok (.iaload, 1) := by decide +kernel
theorem dL_604 : decode code 604 = .ok (.invokevirtual 81, 3) := by decide +kernel
theorem dL_607 : decode code 607 = .ok (.if_icmp .eq 535, 3) := by decide +kernel
theorem dL_610 : decode code 610 = .ok (.iconst 0, 1) := by decide +kernel
theorem dL_611 : decode code 611 = .ok (.ireturn, 1) := by decide +kernel
theorem dL_612 : decode code 612 = .ok (.aload_n 1, 1) := by decide +kernel
theorem dL_613 : decode code 613 = .ok (.aload_n 0, 1) := by decide +kernel
theorem dL_614 : decode code 614 = .ok (.iload_n 3, 1) := by decide +kernel
theorem dL_615 : decode code 615 = .ok (.iconst 1, 1) := by decide +kernel
theorem dL_616 : decode code 616 = .ok (.iadd, 1) := by decide +kernel
theorem dL_617 : decode code 617 = .ok (.iaload, 1) := by decide +kernel
theorem dL_618 : decode code 618 = .ok (.aload_n 0, 1) := by decide +kernel
theorem dL_619 : decode code 619 = .ok (.iload_n 3, 1) := by decide +kernel
theorem dL_620 : decode code 620 = .ok (.iconst 2, 1) := by decide +kernel
theorem dL_621 : decode code 621 = .ok (.iadd, 1) := by decide +kernel
theorem dL_622 : decode code 622 = .ok (.iaload, 1) := by decide +kernel
theorem dL_623 : decode code 623 = .ok (.invokevirtual 82, 3) := by decide +kernel
theorem dL_626 : decode code 626 = .ok (.aload_n 2, 1) := by decide +kernel
theorem dL_627 : decode code 627 = .ok (.aload_n 0, 1) := by decide +kernel
theorem dL_628 : decode code 628 = .ok (.iload_n 3, 1) := by decide +kernel
theorem dL_629 : decode code 629 = .ok (.iconst 1, 1) := by decide +kernel
theorem dL_630 : decode code 630 = .ok (.iadd, 1) := by decide +kernel
theorem dL_631 : decode code 631 = .ok (.iaload, 1) := by decide +kernel
theorem dL_632 : decode code 632 = .ok (.aload_n 0, 1) := by decide +kernel
theorem dL_633 : decode code 633 = .ok (.iload_n 3, 1) := by decide +kernel
theorem dL_634 : decode code 634 = .ok (.iconst 2, 1) := by decide +kernel
theorem dL_635 : decode code 635 = .ok (.iadd, 1) := by decide +kernel
theorem dL_636 : decode code 636 = .ok (.iaload, 1) := by decide +kernel
theorem dL_637 : decode code 637 = .ok (.invokevirtual 85, 3) := by decide +kernel
theorem dL_640 : decode code 640 = .ok (.if_icmp .eq 502, 3) := by decide +kernel
theorem dL_643 : decode code 643 = .ok (.iconst 0, 1) := by decide +kernel
theorem dL_644 : decode code 644 = .ok (.ireturn, 1) := by decide +kernel
theorem dL_645 : decode code 645 = .ok (.aload_n 1, 1) := by decide +kernel
theorem dL_646 : decode code 646 = .ok (.invokevirtual 86, 3) := by decide +kernel
theorem dL_649 : decode code 649 = .ok (.aload_n 2, 1) := by decide +kernel
theorem dL_650 : decode code 650 = .ok (.invokevirtual 89, 3) := by decide +kernel
