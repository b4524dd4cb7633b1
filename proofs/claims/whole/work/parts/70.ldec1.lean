/-! decodings of the law, 1 of 4 -/
theorem dl_0 : decode code 0 = .ok (.new 7, 3) := by decide +kernel
theorem dl_3 : decode code 3 = .ok (.dup, 1) := by decide +kernel
theorem dl_4 : decode code 4 = .ok (.invokespecial 9, 3) := by decide +kernel
theorem dl_7 : decode code 7 = .ok (.astore_n 1, 1) := by decide +kernel
theorem dl_8 : decode code 8 = .ok (.new 10, 3) := by decide +kernel
theorem dl_11 : decode code 11 = .ok (.dup, 1) := by decide +kernel
theorem dl_12 : decode code 12 = .ok (.invokespecial 12, 3) := by decide +kernel
theorem dl_15 : decode code 15 = .ok (.astore_n 2, 1) := by decide +kernel
theorem dl_16 : decode code 16 = .ok (.iconst 0, 1) := by decide +kernel
theorem dl_17 : decode code 17 = .ok (.istore_n 3, 1) := by decide +kernel
theorem dl_18 : decode code 18 = .ok (.iload_n 3, 1) := by decide +kernel
theorem dl_19 : decode code 19 = .ok (.aload_n 0, 1) := by decide +kernel
theorem dl_20 : decode code 20 = .ok (.arraylength, 1) := by decide +kernel
theorem dl_21 : decode code 21 = .ok (.iconst 5, 1) := by decide +kernel
theorem dl_22 : decode code 22 = .ok (.isub, 1) := by decide +kernel
theorem dl_23 : decode code 23 = .ok (.if_icmp .gt 1460, 3) := by decide +kernel
theorem dl_26 : decode code 26 = .ok (.aload_n 0, 1) := by decide +kernel
theorem dl_27 : decode code 27 = .ok (.iload_n 3, 1) := by decide +kernel
theorem dl_28 : decode code 28 = .ok (.iaload, 1) := by decide +kernel
theorem dl_29 : decode code 29 = .ok (.bipush 63, 2) := by decide +kernel
theorem dl_31 : decode code 31 = .ok (.iand, 1) := by decide +kernel
theorem dl_32 : decode code 32 = .ok (.tableswitch 1445 0 40 #[180, 203, 226, 239, 252, 275, 308, 341, 384, 427, 460, 503, 526, 539, 562, 595, 638, 661, 694, 727, 760, 793, 826, 859, 882, 925, 969, 1013, 1056, 1079, 1102, 1125, 1148, 1181, 1224, 1247, 1270, 1313, 1356, 1409, 1422], 180) := by decide +kernel
theorem dl_212 : decode code 212 = .ok (.aload_n 1, 1) := by decide +kernel
theorem dl_213 : decode code 213 = .ok (.aload_n 0, 1) := by decide +kernel
theorem dl_214 : decode code 214 = .ok (.iload_n 3, 1) := by decide +kernel
theorem dl_215 : decode code 215 = .ok (.iconst 1, 1) := by decide +kernel
theorem dl_216 : decode code 216 = .ok (.iadd, 1) := by decide +kernel
theorem dl_217 : decode code 217 = .ok (.iaload, 1) := by decide +kernel
theorem dl_218 : decode code 218 = .ok (.invokevirtual 13, 3) := by decide +kernel
theorem dl_221 : decode code 221 = .ok (.aload_n 2, 1) := by decide +kernel
theorem dl_222 : decode code 222 = .ok (.aload_n 0, 1) := by decide +kernel
theorem dl_223 : decode code 223 = .ok (.iload_n 3, 1) := by decide +kernel
theorem dl_224 : decode code 224 = .ok (.iconst 1, 1) := by decide +kernel
theorem dl_225 : decode code 225 = .ok (.iadd, 1) := by decide +kernel
theorem dl_226 : decode code 226 = .ok (.iaload, 1) := by decide +kernel
theorem dl_227 : decode code 227 = .ok (.invokevirtual 17, 3) := by decide +kernel
theorem dl_230 : decode code 230 = .ok (.if_icmp .eq 1247, 3) := by decide +kernel
theorem dl_233 : decode code 233 = .ok (.iconst 0, 1) := by decide +kernel
theorem dl_234 : decode code 234 = .ok (.ireturn, 1) := by decide +kernel
theorem dl_235 : decode code 235 = .ok (.aload_n 1, 1) := by decide +kernel
theorem dl_236 : decode code 236 = .ok (.aload_n 0, 1) := by decide +kernel
theorem dl_237 : decode code 237 = .ok (.iload_n 3, 1) := by decide +kernel
theorem dl_238 : decode code 238 = .ok (.iconst 1, 1) := by decide +kernel
theorem dl_239 : decode code 239 = .ok (.iadd, 1) := by decide +kernel
theorem dl_240 : decode code 240 = .ok (.iaload, 1) := by decide +kernel
theorem dl_241 : decode code 241 = .ok (.invokevirtual 18, 3) := by decide +kernel
theorem dl_244 : decode code 244 = .ok (.aload_n 2, 1) := by decide +kernel
theorem dl_245 : decode code 245 = .ok (.aload_n 0, 1) := by decide +kernel
theorem dl_246 : decode code 246 = .ok (.iload_n 3, 1) := by decide +kernel
theorem dl_247 : decode code 247 = .ok (.iconst 1, 1) := by decide +kernel
theorem dl_248 : decode code 248 = .ok (.iadd, 1) := by decide +kernel
theorem dl_249 : decode code 249 = .ok (.iaload, 1) := by decide +kernel
theorem dl_250 : decode code 250 = .ok (.invokevirtual 21, 3) := by decide +kernel
theorem dl_253 : decode code 253 = .ok (.if_icmp .eq 1224, 3) := by decide +kernel
theorem dl_256 : decode code 256 = .ok (.iconst 0, 1) := by decide +kernel
theorem dl_257 : decode code 257 = .ok (.ireturn, 1) := by decide +kernel
theorem dl_258 : decode code 258 = .ok (.aload_n 1, 1) := by decide +kernel
theorem dl_259 : decode code 259 = .ok (.invokevirtual 22, 3) := by decide +kernel
theorem dl_262 : decode code 262 = .ok (.aload_n 2, 1) := by decide +kernel
theorem dl_263 : decode code 263 = .ok (.invokevirtual 26, 3) := by decide +kernel
theorem dl_266 : decode code 266 = .ok (.if_icmp .eq 1211, 3) := by decide +kernel
theorem dl_269 : decode code 269 = .ok (.iconst 0, 1) := by decide +kernel
theorem dl_270 : decode code 270 = .ok (.ireturn, 1) := by decide +kernel
theorem dl_271 : decode code 271 = .ok (.aload_n 1, 1) := by decide +kernel
theorem dl_272 : decode code 272 = .ok (.invokevirtual 27, 3) := by decide +kernel
theorem dl_275 : decode code 275 = .ok (.aload_n 2, 1) := by decide +kernel
theorem dl_276 : decode code 276 = .ok (.invokevirtual 30, 3) := by decide +kernel
theorem dl_279 : decode code 279 = .ok (.if_icmp .eq 1198, 3) := by decide +kernel
theorem dl_282 : decode code 282 = .ok (.iconst 0, 1) := by decide +kernel
theorem dl_283 : decode code 283 = .ok (.ireturn, 1) := by decide +kernel
theorem dl_284 : decode code 284 = .ok (.aload_n 1, 1) := by decide +kernel
theorem dl_285 : decode code 285 = .ok (.aload_n 0, 1) := by decide +kernel
theorem dl_286 : decode code 286 = .ok (.iload_n 3, 1) := by decide +kernel
theorem dl_287 : decode code 287 = .ok (.iconst 1, 1) := by decide +kernel
theorem dl_288 : decode code 288 = .ok (.iadd, 1) := by decide +kernel
theorem dl_289 : decode code 289 = .ok (.iaload, 1) := by decide +kernel
theorem dl_290 : decode code 290 = .ok (.invokevirtual 31, 3) := by decide +kernel
theorem dl_293 : decode code 293 = .ok (.aload_n 2, 1) := by decide +kernel
theorem dl_294 : decode code 294 = .ok (.aload_n 0, 1) := by decide +kernel
theorem dl_295 : decode code 295 = .ok (.iload_n 3, 1) := by decide +kernel
theorem dl_296 : decode code 296 = .ok (.iconst 1, 1) := by decide +kernel
theorem dl_297 : decode code 297 = .ok (.iadd, 1) := by decide +kernel
theorem dl_298 : decode code 298 = .ok (.iaload, 1) := by decide +kernel
theorem dl_299 : decode code 299 = .ok (.invokevirtual 34, 3) := by decide +kernel
theorem dl_302 : decode code 302 = .ok (.if_icmp .eq 1175, 3) := by decide +kernel
theorem dl_305 : decode code 305 = .ok (.iconst 0, 1) := by decide +kernel
theorem dl_306 : decode code 306 = .ok (.ireturn, 1) := by decide +kernel
theorem dl_307 : decode code 307 = .ok (.aload_n 1, 1) := by decide +kernel
theorem dl_308 : decode code 308 = .ok (.aload_n 0, 1) := by decide +kernel
theorem dl_309 : decode code 309 = .ok (.iload_n 3, 1) := by decide +kernel
theorem dl_310 : decode code 310 = .ok (.iconst 1, 1) := by decide +kernel
theorem dl_311 : decode code 311 = .ok (.iadd, 1) := by decide +kernel
theorem dl_312 : decode code 312 = .ok (.iaload, 1) := by decide +kernel
theorem dl_313 : decode code 313 = .ok (.aload_n 0, 1) := by decide +kernel
theorem dl_314 : decode code 314 = .ok (.iload_n 3, 1) := by decide +kernel
theorem dl_315 : decode code 315 = .ok (.iconst 2, 1) := by decide +kernel
theorem dl_316 : decode code 316 = .ok (.iadd, 1) := by decide +kernel
theorem dl_317 : decode code 317 = .ok (.iaload, 1) := by decide +kernel
theorem dl_318 : decode code 318 = .ok (.invokevirtual 35, 3) := by decide +kernel
theorem dl_321 : decode code 321 = .ok (.aload_n 2, 1) := by decide +kernel
theorem dl_322 : decode code 322 = .ok (.aload_n 0, 1) := by decide +kernel
theorem dl_323 : decode code 323 = .ok (.iload_n 3, 1) := by decide +kernel
theorem dl_324 : decode code 324 = .ok (.iconst 1, 1) := by decide +kernel
theorem dl_325 : decode code 325 = .ok (.iadd, 1) := by decide +kernel
theorem dl_326 : decode code 326 = .ok (.iaload, 1) := by decide +kernel
theorem dl_327 : decode code 327 = .ok (.aload_n 0, 1) := by decide +kernel
theorem dl_328 : decode code 328 = .ok (.iload_n 3, 1) := by decide +kernel
theorem dl_329 : decode code 329 = .ok (.iconst 2, 1) := by decide +kernel
theorem dl_330 : decode code 330 = .ok (.iadd, 1) := by decide +kernel
theorem dl_331 : decode code 331 = .ok (.iaload, 1) := by decide +kernel
theorem dl_332 : decode code 332 = .ok (.invokevirtual 39, 3) := by decide +kernel
theorem dl_335 : decode code 335 = .ok (.if_icmp .eq 1142, 3) := by decide +kernel
theorem dl_338 : decode code 338 = .ok (.iconst 0, 1) := by decide +kernel
theorem dl_339 : decode code 339 = .ok (.ireturn, 1) := by decide +kernel
theorem dl_340 : decode code 340 = .ok (.aload_n 1, 1) := by decide +kernel
theorem dl_341 : decode code 341 = .ok (.aload_n 0, 1) := by decide +kernel
theorem dl_342 : decode code 342 = .ok (.iload_n 3, 1) := by decide +kernel
theorem dl_343 : decode code 343 = .ok (.iconst 1, 1) := by decide +kernel
theorem dl_344 : decode code 344 = .ok (.iadd, 1) := by decide +kernel
theorem dl_345 : decode code 345 = .ok (.iaload, 1) := by decide +kernel
theorem dl_346 : decode code 346 = .ok (.aload_n 0, 1) := by decide +kernel
theorem dl_347 : decode code 347 = .ok (.iload_n 3, 1) := by decide +kernel
theorem dl_348 : decode code 348 = .ok (.iconst 2, 1) := by decide +kernel
theorem dl_349 : decode code 349 = .ok (.iadd, 1) := by decide +kernel
theorem dl_350 : decode code 350 = .ok (.iaload, 1) := by decide +kernel
theorem dl_351 : decode code 351 = .ok (.invokevirtual 40, 3) := by decide +kernel
theorem dl_354 : decode code 354 = .ok (.aload_n 2, 1) := by decide +kernel
theorem dl_355 : decode code 355 = .ok (.aload_n 0, 1) := by decide +kernel
theorem dl_356 : decode code 356 = .ok (.iload_n 3, 1) := by decide +kernel
theorem dl_357 : decode code 357 = .ok (.iconst 1, 1) := by decide +kernel
theorem dl_358 : decode code 358 = .ok (.iadd, 1) := by decide +kernel
theorem dl_359 : decode code 359 = .ok (.iaload, 1) := by decide +kernel
theorem dl_360 : decode code 360 = .ok (.aload_n 0, 1) := by decide +kernel
theorem dl_361 : decode code 361 = .ok (.iload_n 3, 1) := by decide +kernel
theorem dl_362 : decode code 362 = .ok (.iconst 2, 1) := by decide +kernel
theorem dl_363 : decode code 363 = .ok (.iadd, 1) := by decide +kernel
theorem dl_364 : decode code 364 = .ok (.iaload, 1) := by decide +kernel
theorem dl_365 : decode code 365 = .ok (.invokevirtual 43, 3) := by decide +kernel
theorem dl_368 : decode code 368 = .ok (.if_icmp .eq 1109, 3) := by decide +kernel
theorem dl_371 : decode code 371 = .ok (.iconst 0, 1) := by decide +kernel
theorem dl_372 : decode code 372 = .ok (.ireturn, 1) := by decide +kernel
theorem dl_373 : decode code 373 = .ok (.aload_n 1, 1) := by decide +kernel
theorem dl_374 : decode code 374 = .ok (.aload_n 0, 1) := by decide +kernel
theorem dl_375 : decode code 375 = .ok (.iload_n 3, 1) := by decide +kernel
theorem dl_376 : decode code 376 = .ok (.iconst 1, 1) := by decide +kernel
theorem dl_377 : decode code 377 = .ok (.iadd, 1) := by decide +kernel
theorem dl_378 : decode code 378 = .ok (.iaload, 1) := by decide +kernel
theorem dl_379 : decode code 379 = .ok (.aload_n 0, 1) := by decide +kernel
theorem dl_380 : decode code 380 = .ok (.iload_n 3, 1) := by decide +kernel
theorem dl_381 : decode code 381 = .ok (.iconst 2, 1) := by decide +kernel
theorem dl_382 : decode code 382 = .ok (.iadd, 1) := by decide +kernel
theorem dl_383 : decode code 383 = .ok (.iaload, 1) := by decide +kernel
theorem dl_384 : decode code 384 = .ok (.aload_n 0, 1) := by decide +kernel
theorem dl_385 : decode code 385 = .ok (.iload_n 3, 1) := by decide +kernel
theorem dl_386 : decode code 386 = .ok (.iconst 3, 1) := by decide +kernel
theorem dl_387 : decode code 387 = .ok (.iadd, 1) := by decide +kernel
theorem dl_388 : decode code 388 = .ok (.iaload, 1) := by decide +kernel
theorem dl_389 : decode code 389 = .ok (.invokevirtual 44, 3) := by decide +kernel
theorem dl_392 : decode code 392 = .ok (.aload_n 2, 1) := by decide +kernel
theorem dl_393 : decode code 393 = .ok (.aload_n 0, 1) := by decide +kernel
theorem dl_394 : decode code 394 = .ok (.iload_n 3, 1) := by decide +kernel
theorem dl_395 : decode code 395 = .ok (.iconst 1, 1) := by decide +kernel
theorem dl_396 : decode code 396 = .ok (.iadd, 1) := by decide +kernel
theorem dl_397 : decode code 397 = .ok (.iaload, 1) := by decide +kernel
theorem dl_398 : decode code 398 = .ok (.aload_n 0, 1) := by decide +kernel
theorem dl_399 : decode code 399 = .ok (.iload_n 3, 1) := by decide +kernel
theorem dl_400 : decode code 400 = .ok (.iconst 2, 1) := by decide +kernel
theorem dl_401 : decode code 401 = .ok (.iadd, 1) := by decide +kernel
theorem dl_402 : decode code 402 = .ok (.iaload, 1) := by decide +kernel
theorem dl_403 : decode code 403 = .ok (.aload_n 0, 1) := by decide +kernel
theorem dl_404 : decode code 404 = .ok (.iload_n 3, 1) := by decide +kernel
theorem dl_405 : decode code 405 = .ok (.iconst 3, 1) := by decide +kernel
theorem dl_406 : decode code 406 = .ok (.iadd, 1) := by decide +kernel
theorem dl_407 : decode code 407 = .ok (.iaload, 1) := by decide +kernel
theorem dl_408 : decode code 408 = .ok (.invokevirtual 48, 3) := by decide +kernel
theorem dl_411 : decode code 411 = .ok (.if_icmp .eq 1066, 3) := by decide +kernel
theorem dl_414 : decode code 414 = .ok (.iconst 0, 1) := by decide +kernel
theorem dl_415 : decode code 415 = .ok (.ireturn, 1) := by decide +kernel
theorem dl_416 : decode code 416 = .ok (.aload_n 1, 1) := by decide +kernel
theorem dl_417 : decode code 417 = .ok (.aload_n 0, 1) := by decide +kernel
theorem dl_418 : decode code 418 = .ok (.iload_n 3, 1) := by decide +kernel
theorem dl_419 : decode code 419 = .ok (.iconst 1, 1) := by decide +kernel
theorem dl_420 : decode code 420 = .ok (.iadd, 1) := by decide +kernel
theorem dl_421 : decode code 421 = .ok (.iaload, 1) := by decide +kernel
theorem dl_422 : decode code 422 = .ok (.aload_n 0, 1) := by decide +kernel
theorem dl_423 : decode code 423 = .ok (.iload_n 3, 1) := by decide +kernel
theorem dl_424 : decode code 424 = .ok (.iconst 2, 1) := by decide +kernel
theorem dl_425 : decode code 425 = .ok (.iadd, 1) := by decide +kernel
theorem dl_426 : decode code 426 = .ok (.iaload, 1) := by decide +kernel
theorem dl_427 : decode code 427 = .ok (.aload_n 0, 1) := by decide +kernel
theorem dl_428 : decode code 428 = .ok (.iload_n 3, 1) := by decide +kernel
theorem dl_429 : decode code 429 = .ok (.iconst 3, 1) := by decide +kernel
theorem dl_430 : decode code 430 = .ok (.iadd, 1) := by decide +kernel
theorem dl_431 : decode code 431 = .ok (.iaload, 1) := by decide +kernel
theorem dl_432 : decode code 432 = .ok (.invokevirtual 49, 3) := by decide +kernel
theorem dl_435 : decode code 435 = .ok (.aload_n 2, 1) := by decide +kernel
theorem dl_436 : decode code 436 = .ok (.aload_n 0, 1) := by decide +kernel
theorem dl_437 : decode code 437 = .ok (.iload_n 3, 1) := by decide +kernel
theorem dl_438 : decode code 438 = .ok (.iconst 1, 1) := by decide +kernel
theorem dl_439 : decode code 439 = .ok (.iadd, 1) := by decide +kernel
theorem dl_440 : decode code 440 = .ok (.iaload, 1) := by decide +kernel
theorem dl_441 : decode code 441 = .ok (.aload_n 0, 1) := by decide +kernel
theorem dl_442 : decode code 442 = .ok (.iload_n 3, 1) := by decide +kernel
theorem dl_443 : decode code 443 = .ok (.iconst 2, 1) := by decide +kernel
theorem dl_444 : decode code 444 = .ok (.iadd, 1) := by decide +kernel
theorem dl_445 : decode code 445 = .ok (.iaload, 1) := by decide +kernel
theorem dl_446 : decode code 446 = .ok (.aload_n 0, 1) := by decide +kernel
theorem dl_447 : decode code 447 = .ok (.iload_n 3, 1) := by decide +kernel
theorem dl_448 : decode code 448 = .ok (.iconst 3, 1) := by decide +kernel
theorem dl_449 : decode code 449 = .ok (.iadd, 1) := by decide +kernel
theorem dl_450 : decode code 450 = .ok (.iaload, 1) := by decide +kernel
theorem dl_451 : decode code 451 = .ok (.invokevirtual 52, 3) := by decide +kernel
theorem dl_454 : decode code 454 = .ok (.if_icmp .eq 1023, 3) := by decide +kernel
theorem dl_457 : decode code 457 = .ok (.iconst 0, 1) := by decide +kernel
theorem dl_458 : decode code 458 = .ok (.ireturn, 1) := by decide +kernel
theorem dl_459 : decode code 459 = .ok (.aload_n 1, 1) := by decide +kernel
theorem dl_460 : decode code 460 = .ok (.aload_n 0, 1) := by decide +kernel
theorem dl_461 : decode code 461 = .ok (.iload_n 3, 1) := by decide +kernel
theorem dl_462 : decode code 462 = .ok (.iconst 1, 1) := by decide +kernel
theorem dl_463 : decode code 463 = .ok (.iadd, 1) := by decide +kernel
theorem dl_464 : decode code 464 = .ok (.iaload, 1) := by decide +kernel
theorem dl_465 : decode code 465 = .ok (.aload_n 0, 1) := by decide +kernel
theorem dl_466 : decode code 466 = .ok (.iload_n 3, 1) := by decide +kernel
theorem dl_467 : decode code 467 = .ok (.iconst 2, 1) := by decide +kernel
theorem dl_468 : decode code 468 = .ok (.iadd, 1) := by decide +kernel
theorem dl_469 : decode code 469 = .ok (.iaload, 1) := by decide +kernel
theorem dl_470 : decode code 470 = .ok (.invokevirtual 53, 3) := by decide +kernel
theorem dl_473 : decode code 473 = .ok (.aload_n 2, 1) := by decide +kernel
theorem dl_474 : decode code 474 = .ok (.aload_n 0, 1) := by decide +kernel
theorem dl_475 : decode code 475 = .ok (.iload_n 3, 1) := by decide +kernel
theorem dl_476 : decode code 476 = .ok (.iconst 1, 1) := by decide +kernel
theorem dl_477 : decode code 477 = .ok (.iadd, 1) := by decide +kernel
theorem dl_478 : decode code 478 = .ok (.iaload, 1) := by decide +kernel
theorem dl_479 : decode code 479 = .ok (.aload_n 0, 1) := by decide +kernel
theorem dl_480 : decode code 480 = .ok (.iload_n 3, 1) := by decide +kernel
theorem dl_481 : decode code 481 = .ok (.iconst 2, 1) := by decide +kernel
theorem dl_482 : decode code 482 = .ok (.iadd, 1) := by decide +kernel
theorem dl_483 : decode code 483 = .ok (.iaload, 1) := by decide +kernel
theorem dl_484 : decode code 484 = .ok (.invokevirtual 56, 3) := by decide +kernel
theorem dl_487 : decode code 487 = .ok (.if_icmp .eq 990, 3) := by decide +kernel
theorem dl_490 : decode code 490 = .ok (.iconst 0, 1) := by decide +kernel
theorem dl_491 : decode code 491 = .ok (.ireturn, 1) := by decide +kernel
theorem dl_492 : decode code 492 = .ok (.aload_n 1, 1) := by decide +kernel
theorem dl_493 : decode code 493 = .ok (.aload_n 0, 1) := by decide +kernel
theorem dl_494 : decode code 494 = .ok (.iload_n 3, 1) := by decide +kernel
theorem dl_495 : decode code 495 = .ok (.iconst 1, 1) := by decide +kernel
theorem dl_496 : decode code 496 = .ok (.iadd, 1) := by decide +kernel
theorem dl_497 : decode code 497 = .ok (.iaload, 1) := by decide +kernel
theorem dl_498 : decode code 498 = .ok (.aload_n 0, 1) := by decide +kernel
theorem dl_499 : decode code 499 = .ok (.iload_n 3, 1) := by decide +kernel
theorem dl_500 : decode code 500 = .ok (.iconst 2, 1) := by decide +kernel
theorem dl_501 : decode code 501 = .ok (.iadd, 1) := by decide +kernel
theorem dl_502 : decode code 502 = .ok (.iaload, 1) := by decide +kernel
theorem dl_503 : decode code 503 = .ok (.aload_n 0, 1) := by decide +kernel
theorem dl_504 : decode code 504 = .ok (.iload_n 3, 1) := by decide +kernel
theorem dl_505 : decode code 505 = .ok (.iconst 3, 1) := by decide +kernel
theorem dl_506 : decode code 506 = .ok (.iadd, 1) := by decide +kernel
theorem dl_507 : decode code 507 = .ok (.iaload, 1) := by decide +kernel
theorem dl_508 : decode code 508 = .ok (.invokevirtual 57, 3) := by decide +kernel
theorem dl_511 : decode code 511 = .ok (.aload_n 2, 1) := by decide +kernel
theorem dl_512 : decode code 512 = .ok (.aload_n 0, 1) := by decide +kernel
theorem dl_513 : decode code 513 = .ok (.iload_n 3, 1) := by decide +kernel
