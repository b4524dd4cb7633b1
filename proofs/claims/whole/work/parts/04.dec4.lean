/-! decode rows -/
theorem dd_N_bitCount_0 : decode prog_10_method_49_code 0 = .ok (.iload_n 0, 1) := by decide +kernel
theorem dd_N_bitCount_1 : decode prog_10_method_49_code 1 = .ok (.iload_n 0, 1) := by decide +kernel
theorem dd_N_bitCount_2 : decode prog_10_method_49_code 2 = .ok (.iconst 1, 1) := by decide +kernel
theorem dd_N_bitCount_3 : decode prog_10_method_49_code 3 = .ok (.iushr, 1) := by decide +kernel
theorem dd_N_bitCount_4 : decode prog_10_method_49_code 4 = .ok (.ldc_w 265, 3) := by decide +kernel
theorem dd_N_bitCount_7 : decode prog_10_method_49_code 7 = .ok (.iand, 1) := by decide +kernel
theorem dd_N_bitCount_8 : decode prog_10_method_49_code 8 = .ok (.isub, 1) := by decide +kernel
theorem dd_N_bitCount_9 : decode prog_10_method_49_code 9 = .ok (.istore_n 0, 1) := by decide +kernel
theorem dd_N_bitCount_10 : decode prog_10_method_49_code 10 = .ok (.iload_n 0, 1) := by decide +kernel
theorem dd_N_bitCount_11 : decode prog_10_method_49_code 11 = .ok (.ldc_w 266, 3) := by decide +kernel
theorem dd_N_bitCount_14 : decode prog_10_method_49_code 14 = .ok (.iand, 1) := by decide +kernel
theorem dd_N_bitCount_15 : decode prog_10_method_49_code 15 = .ok (.iload_n 0, 1) := by decide +kernel
theorem dd_N_bitCount_16 : decode prog_10_method_49_code 16 = .ok (.iconst 2, 1) := by decide +kernel
theorem dd_N_bitCount_17 : decode prog_10_method_49_code 17 = .ok (.iushr, 1) := by decide +kernel
theorem dd_N_bitCount_18 : decode prog_10_method_49_code 18 = .ok (.ldc_w 266, 3) := by decide +kernel
theorem dd_N_bitCount_21 : decode prog_10_method_49_code 21 = .ok (.iand, 1) := by decide +kernel
theorem dd_N_bitCount_22 : decode prog_10_method_49_code 22 = .ok (.iadd, 1) := by decide +kernel
theorem dd_N_bitCount_23 : decode prog_10_method_49_code 23 = .ok (.istore_n 0, 1) := by decide +kernel
theorem dd_N_bitCount_24 : decode prog_10_method_49_code 24 = .ok (.iload_n 0, 1) := by decide +kernel
theorem dd_N_bitCount_25 : decode prog_10_method_49_code 25 = .ok (.iload_n 0, 1) := by decide +kernel
theorem dd_N_bitCount_26 : decode prog_10_method_49_code 26 = .ok (.iconst 4, 1) := by decide +kernel
theorem dd_N_bitCount_27 : decode prog_10_method_49_code 27 = .ok (.iushr, 1) := by decide +kernel
theorem dd_N_bitCount_28 : decode prog_10_method_49_code 28 = .ok (.iadd, 1) := by decide +kernel
theorem dd_N_bitCount_29 : decode prog_10_method_49_code 29 = .ok (.ldc_w 267, 3) := by decide +kernel
theorem dd_N_bitCount_32 : decode prog_10_method_49_code 32 = .ok (.iand, 1) := by decide +kernel
theorem dd_N_bitCount_33 : decode prog_10_method_49_code 33 = .ok (.istore_n 0, 1) := by decide +kernel
theorem dd_N_bitCount_34 : decode prog_10_method_49_code 34 = .ok (.iload_n 0, 1) := by decide +kernel
theorem dd_N_bitCount_35 : decode prog_10_method_49_code 35 = .ok (.iload_n 0, 1) := by decide +kernel
theorem dd_N_bitCount_36 : decode prog_10_method_49_code 36 = .ok (.bipush 8, 2) := by decide +kernel
theorem dd_N_bitCount_38 : decode prog_10_method_49_code 38 = .ok (.iushr, 1) := by decide +kernel
theorem dd_N_bitCount_39 : decode prog_10_method_49_code 39 = .ok (.iadd, 1) := by decide +kernel
theorem dd_N_bitCount_40 : decode prog_10_method_49_code 40 = .ok (.istore_n 0, 1) := by decide +kernel
theorem dd_N_bitCount_41 : decode prog_10_method_49_code 41 = .ok (.iload_n 0, 1) := by decide +kernel
theorem dd_N_bitCount_42 : decode prog_10_method_49_code 42 = .ok (.iload_n 0, 1) := by decide +kernel
theorem dd_N_bitCount_43 : decode prog_10_method_49_code 43 = .ok (.bipush 16, 2) := by decide +kernel
theorem dd_N_bitCount_45 : decode prog_10_method_49_code 45 = .ok (.iushr, 1) := by decide +kernel
theorem dd_N_bitCount_46 : decode prog_10_method_49_code 46 = .ok (.iadd, 1) := by decide +kernel
theorem dd_N_bitCount_47 : decode prog_10_method_49_code 47 = .ok (.istore_n 0, 1) := by decide +kernel
theorem dd_N_bitCount_48 : decode prog_10_method_49_code 48 = .ok (.iload_n 0, 1) := by decide +kernel
theorem dd_N_bitCount_49 : decode prog_10_method_49_code 49 = .ok (.bipush 63, 2) := by decide +kernel
theorem dd_N_bitCount_51 : decode prog_10_method_49_code 51 = .ok (.iand, 1) := by decide +kernel
theorem dd_N_bitCount_52 : decode prog_10_method_49_code 52 = .ok (.ireturn, 1) := by decide +kernel
theorem dd_L_law_0 : decode code 0 = .ok (.new 7, 3) := by decide +kernel
theorem dd_L_law_3 : decode code 3 = .ok (.dup, 1) := by decide +kernel
theorem dd_L_law_4 : decode code 4 = .ok (.invokespecial 9, 3) := by decide +kernel
theorem dd_L_law_7 : decode code 7 = .ok (.astore_n 1, 1) := by decide +kernel
theorem dd_L_law_8 : decode code 8 = .ok (.new 10, 3) := by decide +kernel
theorem dd_L_law_11 : decode code 11 = .ok (.dup, 1) := by decide +kernel
theorem dd_L_law_12 : decode code 12 = .ok (.invokespecial 12, 3) := by decide +kernel
theorem dd_L_law_15 : decode code 15 = .ok (.astore_n 2, 1) := by decide +kernel
theorem dd_L_law_16 : decode code 16 = .ok (.iconst 0, 1) := by decide +kernel
theorem dd_L_law_17 : decode code 17 = .ok (.istore_n 3, 1) := by decide +kernel
theorem dd_L_law_18 : decode code 18 = .ok (.iload_n 3, 1) := by decide +kernel
theorem dd_L_law_19 : decode code 19 = .ok (.aload_n 0, 1) := by decide +kernel
theorem dd_L_law_20 : decode code 20 = .ok (.arraylength, 1) := by decide +kernel
theorem dd_L_law_21 : decode code 21 = .ok (.iconst 5, 1) := by decide +kernel
theorem dd_L_law_22 : decode code 22 = .ok (.isub, 1) := by decide +kernel
theorem dd_L_law_23 : decode code 23 = .ok (.if_icmp .gt 1460, 3) := by decide +kernel
theorem dd_L_law_26 : decode code 26 = .ok (.aload_n 0, 1) := by decide +kernel
theorem dd_L_law_27 : decode code 27 = .ok (.iload_n 3, 1) := by decide +kernel
theorem dd_L_law_28 : decode code 28 = .ok (.iaload, 1) := by decide +kernel
theorem dd_L_law_29 : decode code 29 = .ok (.bipush 63, 2) := by decide +kernel
theorem dd_L_law_31 : decode code 31 = .ok (.iand, 1) := by decide +kernel
theorem dd_L_law_32 : decode code 32 = .ok (.tableswitch 1445 0 40 #[180, 203, 226, 239, 252, 275, 308, 341, 384, 427, 460, 503, 526, 539, 562, 595, 638, 661, 694, 727, 760, 793, 826, 859, 882, 925, 969, 1013, 1056, 1079, 1102, 1125, 1148, 1181, 1224, 1247, 1270, 1313, 1356, 1409, 1422], 180) := by decide +kernel
theorem dd_L_law_212 : decode code 212 = .ok (.aload_n 1, 1) := by decide +kernel
theorem dd_L_law_213 : decode code 213 = .ok (.aload_n 0, 1) := by decide +kernel
theorem dd_L_law_214 : decode code 214 = .ok (.iload_n 3, 1) := by decide +kernel
theorem dd_L_law_215 : decode code 215 = .ok (.iconst 1, 1) := by decide +kernel
theorem dd_L_law_216 : decode code 216 = .ok (.iadd, 1) := by decide +kernel
theorem dd_L_law_217 : decode code 217 = .ok (.iaload, 1) := by decide +kernel
theorem dd_L_law_218 : decode code 218 = .ok (.invokevirtual 13, 3) := by decide +kernel
theorem dd_L_law_221 : decode code 221 = .ok (.aload_n 2, 1) := by decide +kernel
theorem dd_L_law_222 : decode code 222 = .ok (.aload_n 0, 1) := by decide +kernel
theorem dd_L_law_223 : decode code 223 = .ok (.iload_n 3, 1) := by decide +kernel
theorem dd_L_law_224 : decode code 224 = .ok (.iconst 1, 1) := by decide +kernel
theorem dd_L_law_225 : decode code 225 = .ok (.iadd, 1) := by decide +kernel
theorem dd_L_law_226 : decode code 226 = .ok (.iaload, 1) := by decide +kernel
theorem dd_L_law_227 : decode code 227 = .ok (.invokevirtual 17, 3) := by decide +kernel
theorem dd_L_law_230 : decode code 230 = .ok (.if_icmp .eq 1247, 3) := by decide +kernel
theorem dd_L_law_233 : decode code 233 = .ok (.iconst 0, 1) := by decide +kernel
theorem dd_L_law_234 : decode code 234 = .ok (.ireturn, 1) := by decide +kernel
theorem dd_L_law_235 : decode code 235 = .ok (.aload_n 1, 1) := by decide +kernel
theorem dd_L_law_236 : decode code 236 = .ok (.aload_n 0, 1) := by decide +kernel
theorem dd_L_law_237 : decode code 237 = .ok (.iload_n 3, 1) := by decide +kernel
theorem dd_L_law_238 : decode code 238 = .ok (.iconst 1, 1) := by decide +kernel
theorem dd_L_law_239 : decode code 239 = .ok (.iadd, 1) := by decide +kernel
theorem dd_L_law_240 : decode code 240 = .ok (.iaload, 1) := by decide +kernel
theorem dd_L_law_241 : decode code 241 = .ok (.invokevirtual 18, 3) := by decide +kernel
theorem dd_L_law_244 : decode code 244 = .ok (.aload_n 2, 1) := by decide +kernel
theorem dd_L_law_245 : decode code 245 = .ok (.aload_n 0, 1) := by decide +kernel
theorem dd_L_law_246 : decode code 246 = .ok (.iload_n 3, 1) := by decide +kernel
theorem dd_L_law_247 : decode code 247 = .ok (.iconst 1, 1) := by decide +kernel
theorem dd_L_law_248 : decode code 248 = .ok (.iadd, 1) := by decide +kernel
theorem dd_L_law_249 : decode code 249 = .ok (.iaload, 1) := by decide +kernel
theorem dd_L_law_250 : decode code 250 = .ok (.invokevirtual 21, 3) := by decide +kernel
theorem dd_L_law_253 : decode code 253 = .ok (.if_icmp .eq 1224, 3) := by decide +kernel
theorem dd_L_law_256 : decode code 256 = .ok (.iconst 0, 1) := by decide +kernel
theorem dd_L_law_257 : decode code 257 = .ok (.ireturn, 1) := by decide +kernel
theorem dd_L_law_258 : decode code 258 = .ok (.aload_n 1, 1) := by decide +kernel
theorem dd_L_law_259 : decode code 259 = .ok (.invokevirtual 22, 3) := by decide +kernel
theorem dd_L_law_262 : decode code 262 = .ok (.aload_n 2, 1) := by decide +kernel
theorem dd_L_law_263 : decode code 263 = .ok (.invokevirtual 26, 3) := by decide +kernel
theorem dd_L_law_266 : decode code 266 = .ok (.if_icmp .eq 1211, 3) := by decide +kernel
theorem dd_L_law_269 : decode code 269 = .ok (.iconst 0, 1) := by decide +kernel
theorem dd_L_law_270 : decode code 270 = .ok (.ireturn, 1) := by decide +kernel
theorem dd_L_law_271 : decode code 271 = .ok (.aload_n 1, 1) := by decide +kernel
theorem dd_L_law_272 : decode code 272 = .ok (.invokevirtual 27, 3) := by decide +kernel
theorem dd_L_law_275 : decode code 275 = .ok (.aload_n 2, 1) := by decide +kernel
theorem dd_L_law_276 : decode code 276 = .ok (.invokevirtual 30, 3) := by decide +kernel
theorem dd_L_law_279 : decode code 279 = .ok (.if_icmp .eq 1198, 3) := by decide +kernel
theorem dd_L_law_282 : decode code 282 = .ok (.iconst 0, 1) := by decide +kernel
theorem dd_L_law_283 : decode code 283 = .ok (.ireturn, 1) := by decide +kernel
theorem dd_L_law_284 : decode code 284 = .ok (.aload_n 1, 1) := by decide +kernel
theorem dd_L_law_285 : decode code 285 = .ok (.aload_n 0, 1) := by decide +kernel
theorem dd_L_law_286 : decode code 286 = .ok (.iload_n 3, 1) := by decide +kernel
theorem dd_L_law_287 : decode code 287 = .ok (.iconst 1, 1) := by decide +kernel
theorem dd_L_law_288 : decode code 288 = .ok (.iadd, 1) := by decide +kernel
theorem dd_L_law_289 : decode code 289 = .ok (.iaload, 1) := by decide +kernel
theorem dd_L_law_290 : decode code 290 = .ok (.invokevirtual 31, 3) := by decide +kernel
theorem dd_L_law_293 : decode code 293 = .ok (.aload_n 2, 1) := by decide +kernel
theorem dd_L_law_294 : decode code 294 = .ok (.aload_n 0, 1) := by decide +kernel
theorem dd_L_law_295 : decode code 295 = .ok (.iload_n 3, 1) := by decide +kernel
theorem dd_L_law_296 : decode code 296 = .ok (.iconst 1, 1) := by decide +kernel
theorem dd_L_law_297 : decode code 297 = .ok (.iadd, 1) := by decide +kernel
theorem dd_L_law_298 : decode code 298 = .ok (.iaload, 1) := by decide +kernel
theorem dd_L_law_299 : decode code 299 = .ok (.invokevirtual 34, 3) := by decide +kernel
theorem dd_L_law_302 : decode code 302 = .ok (.if_icmp .eq 1175, 3) := by decide +kernel
theorem dd_L_law_305 : decode code 305 = .ok (.iconst 0, 1) := by decide +kernel
theorem dd_L_law_306 : decode code 306 = .ok (.ireturn, 1) := by decide +kernel
theorem dd_L_law_307 : decode code 307 = .ok (.aload_n 1, 1) := by decide +kernel
theorem dd_L_law_308 : decode code 308 = .ok (.aload_n 0, 1) := by decide +kernel
theorem dd_L_law_309 : decode code 309 = .ok (.iload_n 3, 1) := by decide +kernel
theorem dd_L_law_310 : decode code 310 = .ok (.iconst 1, 1) := by decide +kernel
theorem dd_L_law_311 : decode code 311 = .ok (.iadd, 1) := by decide +kernel
theorem dd_L_law_312 : decode code 312 = .ok (.iaload, 1) := by decide +kernel
theorem dd_L_law_313 : decode code 313 = .ok (.aload_n 0, 1) := by decide +kernel
theorem dd_L_law_314 : decode code 314 = .ok (.iload_n 3, 1) := by decide +kernel
theorem dd_L_law_315 : decode code 315 = .ok (.iconst 2, 1) := by decide +kernel
theorem dd_L_law_316 : decode code 316 = .ok (.iadd, 1) := by decide +kernel
theorem dd_L_law_317 : decode code 317 = .ok (.iaload, 1) := by decide +kernel
theorem dd_L_law_318 : decode code 318 = .ok (.invokevirtual 35, 3) := by decide +kernel
theorem dd_L_law_321 : decode code 321 = .ok (.aload_n 2, 1) := by decide +kernel
theorem dd_L_law_322 : decode code 322 = .ok (.aload_n 0, 1) := by decide +kernel
theorem dd_L_law_323 : decode code 323 = .ok (.iload_n 3, 1) := by decide +kernel
theorem dd_L_law_324 : decode code 324 = .ok (.iconst 1, 1) := by decide +kernel
theorem dd_L_law_325 : decode code 325 = .ok (.iadd, 1) := by decide +kernel
theorem dd_L_law_326 : decode code 326 = .ok (.iaload, 1) := by decide +kernel
theorem dd_L_law_327 : decode code 327 = .ok (.aload_n 0, 1) := by decide +kernel
theorem dd_L_law_328 : decode code 328 = .ok (.iload_n 3, 1) := by decide +kernel
theorem dd_L_law_329 : decode code 329 = .ok (.iconst 2, 1) := by decide +kernel
theorem dd_L_law_330 : decode code 330 = .ok (.iadd, 1) := by decide +kernel
theorem dd_L_law_331 : decode code 331 = .ok (.iaload, 1) := by decide +kernel
theorem dd_L_law_332 : decode code 332 = .ok (.invokevirtual 39, 3) := by decide +kernel
theorem dd_L_law_335 : decode code 335 = .ok (.if_icmp .eq 1142, 3) := by decide +kernel
theorem dd_L_law_338 : decode code 338 = .ok (.iconst 0, 1) := by decide +kernel
theorem dd_L_law_339 : decode code 339 = .ok (.ireturn, 1) := by decide +kernel
theorem dd_L_law_340 : decode code 340 = .ok (.aload_n 1, 1) := by decide +kernel
theorem dd_L_law_341 : decode code 341 = .ok (.aload_n 0, 1) := by decide +kernel
theorem dd_L_law_342 : decode code 342 = .ok (.iload_n 3, 1) := by decide +kernel
theorem dd_L_law_343 : decode code 343 = .ok (.iconst 1, 1) := by decide +kernel
theorem dd_L_law_344 : decode code 344 = .ok (.iadd, 1) := by decide +kernel
theorem dd_L_law_345 : decode code 345 = .ok (.iaload, 1) := by decide +kernel
theorem dd_L_law_346 : decode code 346 = .ok (.aload_n 0, 1) := by decide +kernel
theorem dd_L_law_347 : decode code 347 = .ok (.iload_n 3, 1) := by decide +kernel
theorem dd_L_law_348 : decode code 348 = .ok (.iconst 2, 1) := by decide +kernel
theorem dd_L_law_349 : decode code 349 = .ok (.iadd, 1) := by decide +kernel
theorem dd_L_law_350 : decode code 350 = .ok (.iaload, 1) := by decide +kernel
theorem dd_L_law_351 : decode code 351 = .ok (.invokevirtual 40, 3) := by decide +kernel
theorem dd_L_law_354 : decode code 354 = .ok (.aload_n 2, 1) := by decide +kernel
theorem dd_L_law_355 : decode code 355 = .ok (.aload_n 0, 1) := by decide +kernel
theorem dd_L_law_356 : decode code 356 = .ok (.iload_n 3, 1) := by decide +kernel
theorem dd_L_law_357 : decode code 357 = .ok (.iconst 1, 1) := by decide +kernel
theorem dd_L_law_358 : decode code 358 = .ok (.iadd, 1) := by decide +kernel
theorem dd_L_law_359 : decode code 359 = .ok (.iaload, 1) := by decide +kernel
theorem dd_L_law_360 : decode code 360 = .ok (.aload_n 0, 1) := by decide +kernel
theorem dd_L_law_361 : decode code 361 = .ok (.iload_n 3, 1) := by decide +kernel
theorem dd_L_law_362 : decode code 362 = .ok (.iconst 2, 1) := by decide +kernel
theorem dd_L_law_363 : decode code 363 = .ok (.iadd, 1) := by decide +kernel
theorem dd_L_law_364 : decode code 364 = .ok (.iaload, 1) := by decide +kernel
theorem dd_L_law_365 : decode code 365 = .ok (.invokevirtual 43, 3) := by decide +kernel
theorem dd_L_law_368 : decode code 368 = .ok (.if_icmp .eq 1109, 3) := by decide +kernel
theorem dd_L_law_371 : decode code 371 = .ok (.iconst 0, 1) := by decide +kernel
theorem dd_L_law_372 : decode code 372 = .ok (.ireturn, 1) := by decide +kernel
theorem dd_L_law_373 : decode code 373 = .ok (.aload_n 1, 1) := by decide +kernel
theorem dd_L_law_374 : decode code 374 = .ok (.aload_n 0, 1) := by decide +kernel
theorem dd_L_law_375 : decode code 375 = .ok (.iload_n 3, 1) := by decide +kernel
theorem dd_L_law_376 : decode code 376 = .ok (.iconst 1, 1) := by decide +kernel
theorem dd_L_law_377 : decode code 377 = .ok (.iadd, 1) := by decide +kernel
theorem dd_L_law_378 : decode code 378 = .ok (.iaload, 1) := by decide +kernel
theorem dd_L_law_379 : decode code 379 = .ok (.aload_n 0, 1) := by decide +kernel
theorem dd_L_law_380 : decode code 380 = .ok (.iload_n 3, 1) := by decide +kernel
theorem dd_L_law_381 : decode code 381 = .ok (.iconst 2, 1) := by decide +kernel
theorem dd_L_law_382 : decode code 382 = .ok (.iadd, 1) := by decide +kernel
theorem dd_L_law_383 : decode code 383 = .ok (.iaload, 1) := by decide +kernel
theorem dd_L_law_384 : decode code 384 = .ok (.aload_n 0, 1) := by decide +kernel
theorem dd_L_law_385 : decode code 385 = .ok (.iload_n 3, 1) := by decide +kernel
theorem dd_L_law_386 : decode code 386 = .ok (.iconst 3, 1) := by decide +kernel
theorem dd_L_law_387 : decode code 387 = .ok (.iadd, 1) := by decide +kernel
theorem dd_L_law_388 : decode code 388 = .ok (.iaload, 1) := by decide +kernel
theorem dd_L_law_389 : decode code 389 = .ok (.invokevirtual 44, 3) := by decide +kernel
theorem dd_L_law_392 : decode code 392 = .ok (.aload_n 2, 1) := by decide +kernel
theorem dd_L_law_393 : decode code 393 = .ok (.aload_n 0, 1) := by decide +kernel
theorem dd_L_law_394 : decode code 394 = .ok (.iload_n 3, 1) := by decide +kernel
theorem dd_L_law_395 : decode code 395 = .ok (.iconst 1, 1) := by decide +kernel
theorem dd_L_law_396 : decode code 396 = .ok (.iadd, 1) := by decide +kernel
theorem dd_L_law_397 : decode code 397 = .ok (.iaload, 1) := by decide +kernel
theorem dd_L_law_398 : decode code 398 = .ok (.aload_n 0, 1) := by decide +kernel
theorem dd_L_law_399 : decode code 399 = .ok (.iload_n 3, 1) := by decide +kernel
theorem dd_L_law_400 : decode code 400 = .ok (.iconst 2, 1) := by decide +kernel
theorem dd_L_law_401 : decode code 401 = .ok (.iadd, 1) := by decide +kernel
theorem dd_L_law_402 : decode code 402 = .ok (.iaload, 1) := by decide +kernel
theorem dd_L_law_403 : decode code 403 = .ok (.aload_n 0, 1) := by decide +kernel
theorem dd_L_law_404 : decode code 404 = .ok (.iload_n 3, 1) := by decide +kernel
theorem dd_L_law_405 : decode code 405 = .ok (.iconst 3, 1) := by decide +kernel
theorem dd_L_law_406 : decode code 406 = .ok (.iadd, 1) := by decide +kernel
theorem dd_L_law_407 : decode code 407 = .ok (.iaload, 1) := by decide +kernel
theorem dd_L_law_408 : decode code 408 = .ok (.invokevirtual 48, 3) := by decide +kernel
theorem dd_L_law_411 : decode code 411 = .ok (.if_icmp .eq 1066, 3) := by decide +kernel
theorem dd_L_law_414 : decode code 414 = .ok (.iconst 0, 1) := by decide +kernel
theorem dd_L_law_415 : decode code 415 = .ok (.ireturn, 1) := by decide +kernel
theorem dd_L_law_416 : decode code 416 = .ok (.aload_n 1, 1) := by decide +kernel
theorem dd_L_law_417 : decode code 417 = .ok (.aload_n 0, 1) := by decide +kernel
theorem dd_L_law_418 : decode code 418 = .ok (.iload_n 3, 1) := by decide +kernel
theorem dd_L_law_419 : decode code 419 = .ok (.iconst 1, 1) := by decide +kernel
theorem dd_L_law_420 : decode code 420 = .ok (.iadd, 1) := by decide +kernel
theorem dd_L_law_421 : decode code 421 = .ok (.iaload, 1) := by decide +kernel
theorem dd_L_law_422 : decode code 422 = .ok (.aload_n 0, 1) := by decide +kernel
theorem dd_L_law_423 : decode code 423 = .ok (.iload_n 3, 1) := by decide +kernel
theorem dd_L_law_424 : decode code 424 = .ok (.iconst 2, 1) := by decide +kernel
theorem dd_L_law_425 : decode code 425 = .ok (.iadd, 1) := by decide +kernel
theorem dd_L_law_426 : decode code 426 = .ok (.iaload, 1) := by decide +kernel
theorem dd_L_law_427 : decode code 427 = .ok (.aload_n 0, 1) := by decide +kernel
theorem dd_L_law_428 : decode code 428 = .ok (.iload_n 3, 1) := by decide +kernel
theorem dd_L_law_429 : decode code 429 = .ok (.iconst 3, 1) := by decide +kernel
theorem dd_L_law_430 : decode code 430 = .ok (.iadd, 1) := by decide +kernel
theorem dd_L_law_431 : decode code 431 = .ok (.iaload, 1) := by decide +kernel
theorem dd_L_law_432 : decode code 432 = .ok (.invokevirtual 49, 3) := by decide +kernel
theorem dd_L_law_435 : decode code 435 = .ok (.aload_n 2, 1) := by decide +kernel
theorem dd_L_law_436 : decode code 436 = .ok (.aload_n 0, 1) := by decide +kernel
theorem dd_L_law_437 : decode code 437 = .ok (.iload_n 3, 1) := by decide +kernel
theorem dd_L_law_438 : decode code 438 = .ok (.iconst 1, 1) := by decide +kernel
theorem dd_L_law_439 : decode code 439 = .ok (.iadd, 1) := by decide +kernel
theorem dd_L_law_440 : decode code 440 = .ok (.iaload, 1) := by decide +kernel
theorem dd_L_law_441 : decode code 441 = .ok (.aload_n 0, 1) := by decide +kernel
theorem dd_L_law_442 : decode code 442 = .ok (.iload_n 3, 1) := by decide +kernel
theorem dd_L_law_443 : decode code 443 = .ok (.iconst 2, 1) := by decide +kernel
theorem dd_L_law_444 : decode code 444 = .ok (.iadd, 1) := by decide +kernel
theorem dd_L_law_445 : decode code 445 = .ok (.iaload, 1) := by decide +kernel
theorem dd_L_law_446 : decode code 446 = .ok (.aload_n 0, 1) := by decide +kernel
theorem dd_L_law_447 : decode code 447 = .ok (.iload_n 3, 1) := by decide +kernel
theorem dd_L_law_448 : decode code 448 = .ok (.iconst 3, 1) := by decide +kernel
theorem dd_L_law_449 : decode code 449 = .ok (.iadd, 1) := by decide +kernel
theorem dd_L_law_450 : decode code 450 = .ok (.iaload, 1) := by decide +kernel
theorem dd_L_law_451 : decode code 451 = .ok (.invokevirtual 52, 3) := by decide +kernel
theorem dd_L_law_454 : decode code 454 = .ok (.if_icmp .eq 1023, 3) := by decide +kernel
theorem dd_L_law_457 : decode code 457 = .ok (.iconst 0, 1) := by decide +kernel
theorem dd_L_law_458 : decode code 458 = .ok (.ireturn, 1) := by decide +kernel
theorem dd_L_law_459 : decode code 459 = .ok (.aload_n 1, 1) := by decide +kernel
theorem dd_L_law_460 : decode code 460 = .ok (.aload_n 0, 1) := by decide +kernel
theorem dd_L_law_461 : decode code 461 = .ok (.iload_n 3, 1) := by decide +kernel
theorem dd_L_law_462 : decode code 462 = .ok (.iconst 1, 1) := by decide +kernel
theorem dd_L_law_463 : decode code 463 = .ok (.iadd, 1) := by decide +kernel
theorem dd_L_law_464 : decode code 464 = .ok (.iaload, 1) := by decide +kernel
theorem dd_L_law_465 : decode code 465 = .ok (.aload_n 0, 1) := by decide +kernel
theorem dd_L_law_466 : decode code 466 = .ok (.iload_n 3, 1) := by decide +kernel
theorem dd_L_law_467 : decode code 467 = .ok (.iconst 2, 1) := by decide +kernel
theorem dd_L_law_468 : decode code 468 = .ok (.iadd, 1) := by decide +kernel
theorem dd_L_law_469 : decode code 469 = .ok (.iaload, 1) := by decide +kernel
theorem dd_L_law_470 : decode code 470 = .ok (.invokevirtual 53, 3) := by decide +kernel
theorem dd_L_law_473 : decode code 473 = .ok (.aload_n 2, 1) := by decide +kernel
theorem dd_L_law_474 : decode code 474 = .ok (.aload_n 0, 1) := by decide +kernel
theorem dd_L_law_475 : decode code 475 = .ok (.iload_n 3, 1) := by decide +kernel
theorem dd_L_law_476 : decode code 476 = .ok (.iconst 1, 1) := by decide +kernel
theorem dd_L_law_477 : decode code 477 = .ok (.iadd, 1) := by decide +kernel
theorem dd_L_law_478 : decode code 478 = .ok (.iaload, 1) := by decide +kernel
theorem dd_L_law_479 : decode code 479 = .ok (.aload_n 0, 1) := by decide +kernel
theorem dd_L_law_480 : decode code 480 = .ok (.iload_n 3, 1) := by decide +kernel
theorem dd_L_law_481 : decode code 481 = .ok (.iconst 2, 1) := by decide +kernel
theorem dd_L_law_482 : decode code 482 = .ok (.iadd, 1) := by decide +kernel
theorem dd_L_law_483 : decode code 483 = .ok (.iaload, 1) := by decide +kernel
theorem dd_L_law_484 : decode code 484 = .ok (.invokevirtual 56, 3) := by decide +kernel
theorem dd_L_law_487 : decode code 487 = .ok (.if_icmp .eq 990, 3) := by decide +kernel
theorem dd_L_law_490 : decode code 490 = .ok (.iconst 0, 1) := by decide +kernel
theorem dd_L_law_491 : decode code 491 = .ok (.ireturn, 1) := by decide +kernel
theorem dd_L_law_492 : decode code 492 = .ok (.aload_n 1, 1) := by decide +kernel
theorem dd_L_law_493 : decode code 493 = .ok (.aload_n 0, 1) := by decide +kernel
theorem dd_L_law_494 : decode code 494 = .ok (.iload_n 3, 1) := by decide +kernel
theorem dd_L_law_495 : decode code 495 = .ok (.iconst 1, 1) := by decide +kernel
theorem dd_L_law_496 : decode code 496 = .ok (.iadd, 1) := by decide +kernel
theorem dd_L_law_497 : decode code 497 = .ok (.iaload, 1) := by decide +kernel
theorem dd_L_law_498 : decode code 498 = .ok (.aload_n 0, 1) := by decide +kernel
theorem dd_L_law_499 : decode code 499 = .ok (.iload_n 3, 1) := by decide +kernel
theorem dd_L_law_500 : decode code 500 = .ok (.iconst 2, 1) := by decide +kernel
theorem dd_L_law_501 : decode code 501 = .ok (.iadd, 1) := by decide +kernel
theorem dd_L_law_502 : decode code 502 = .ok (.iaload, 1) := by decide +kernel
theorem dd_L_law_503 : decode code 503 = .ok (.aload_n 0, 1) := by decide +kernel
theorem dd_L_law_504 : decode code 504 = .ok (.iload_n 3, 1) := by decide +kernel
theorem dd_L_law_505 : decode code 505 = .ok (.iconst 3, 1) := by decide +kernel
theorem dd_L_law_506 : decode code 506 = .ok (.iadd, 1) := by decide +kernel
theorem dd_L_law_507 : decode code 507 = .ok (.iaload, 1) := by decide +kernel
theorem dd_L_law_508 : decode code 508 = .ok (.invokevirtual 57, 3) := by decide +kernel
theorem dd_L_law_511 : decode code 511 = .ok (.aload_n 2, 1) := by decide +kernel
theorem dd_L_law_512 : decode code 512 = .ok (.aload_n 0, 1) := by decide +kernel
theorem dd_L_law_513 : decode code 513 = .ok (.iload_n 3, 1) := by decide +kernel
theorem dd_L_law_514 : decode code 514 = .ok (.iconst 1, 1) := by decide +kernel
theorem dd_L_law_515 : decode code 515 = .ok (.iadd, 1) := by decide +kernel
theorem dd_L_law_516 : decode code 516 = .ok (.iaload, 1) := by decide +kernel
theorem dd_L_law_517 : decode code 517 = .ok (.aload_n 0, 1) := by decide +kernel
theorem dd_L_law_518 : decode code 518 = .ok (.iload_n 3, 1) := by decide +kernel
theorem dd_L_law_519 : decode code 519 = .ok (.iconst 2, 1) := by decide +kernel
theorem dd_L_law_520 : decode code 520 = .ok (.iadd, 1) := by decide +kernel
theorem dd_L_law_521 : decode code 521 = .ok (.iaload, 1) := by decide +kernel
theorem dd_L_law_522 : decode code 522 = .ok (.aload_n 0, 1) := by decide +kernel
theorem dd_L_law_523 : decode code 523 = .ok (.iload_n 3, 1) := by decide +kernel
theorem dd_L_law_524 : decode code 524 = .ok (.iconst 3, 1) := by decide +kernel
theorem dd_L_law_525 : decode code 525 = .ok (.iadd, 1) := by decide +kernel
theorem dd_L_law_526 : decode code 526 = .ok (.iaload, 1) := by decide +kernel
theorem dd_L_law_527 : decode code 527 = .ok (.invokevirtual 60, 3) := by decide +kernel
theorem dd_L_law_530 : decode code 530 = .ok (.if_icmp .eq 947, 3) := by decide +kernel
theorem dd_L_law_533 : decode code 533 = .ok (.iconst 0, 1) := by decide +kernel
theorem dd_L_law_534 : decode code 534 = .ok (.ireturn, 1) := by decide +kernel
theorem dd_L_law_535 : decode code 535 = .ok (.aload_n 1, 1) := by decide +kernel
theorem dd_L_law_536 : decode code 536 = .ok (.aload_n 0, 1) := by decide +kernel
theorem dd_L_law_537 : decode code 537 = .ok (.iload_n 3, 1) := by decide +kernel
theorem dd_L_law_538 : decode code 538 = .ok (.iconst 1, 1) := by decide +kernel
theorem dd_L_law_539 : decode code 539 = .ok (.iadd, 1) := by decide +kernel
theorem dd_L_law_540 : decode code 540 = .ok (.iaload, 1) := by decide +kernel
theorem dd_L_law_541 : decode code 541 = .ok (.invokevirtual 61, 3) := by decide +kernel
theorem dd_L_law_544 : decode code 544 = .ok (.aload_n 2, 1) := by decide +kernel
theorem dd_L_law_545 : decode code 545 = .ok (.aload_n 0, 1) := by decide +kernel
theorem dd_L_law_546 : decode code 546 = .ok (.iload_n 3, 1) := by decide +kernel
theorem dd_L_law_547 : decode code 547 = .ok (.iconst 1, 1) := by decide +kernel
theorem dd_L_law_548 : decode code 548 = .ok (.iadd, 1) := by decide +kernel
theorem dd_L_law_549 : decode code 549 = .ok (.iaload, 1) := by decide +kernel
theorem dd_L_law_550 : decode code 550 = .ok (.invokevirtual 64, 3) := by decide +kernel
theorem dd_L_law_553 : decode code 553 = .ok (.if_icmp .eq 924, 3) := by decide +kernel
theorem dd_L_law_556 : decode code 556 = .ok (.iconst 0, 1) := by decide +kernel
theorem dd_L_law_557 : decode code 557 = .ok (.ireturn, 1) := by decide +kernel
theorem dd_L_law_558 : decode code 558 = .ok (.aload_n 1, 1) := by decide +kernel
theorem dd_L_law_559 : decode code 559 = .ok (.invokevirtual 65, 3) := by decide +kernel
theorem dd_L_law_562 : decode code 562 = .ok (.aload_n 2, 1) := by decide +kernel
theorem dd_L_law_563 : decode code 563 = .ok (.invokevirtual 68, 3) := by decide +kernel
theorem dd_L_law_566 : decode code 566 = .ok (.if_icmp .eq 911, 3) := by decide +kernel
theorem dd_L_law_569 : decode code 569 = .ok (.iconst 0, 1) := by decide +kernel
theorem dd_L_law_570 : decode code 570 = .ok (.ireturn, 1) := by decide +kernel
theorem dd_L_law_571 : decode code 571 = .ok (.aload_n 1, 1) := by decide +kernel
theorem dd_L_law_572 : decode code 572 = .ok (.aload_n 0, 1) := by decide +kernel
theorem dd_L_law_573 : decode code 573 = .ok (.iload_n 3, 1) := by decide +kernel
theorem dd_L_law_574 : decode code 574 = .ok (.iconst 1, 1) := by decide +kernel
theorem dd_L_law_575 : decode code 575 = .ok (.iadd, 1) := by decide +kernel
theorem dd_L_law_576 : decode code 576 = .ok (.iaload, 1) := by decide +kernel
theorem dd_L_law_577 : decode code 577 = .ok (.invokevirtual 69, 3) := by decide +kernel
theorem dd_L_law_580 : decode code 580 = .ok (.aload_n 2, 1) := by decide +kernel
theorem dd_L_law_581 : decode code 581 = .ok (.aload_n 0, 1) := by decide +kernel
theorem dd_L_law_582 : decode code 582 = .ok (.iload_n 3, 1) := by decide +kernel
theorem dd_L_law_583 : decode code 583 = .ok (.iconst 1, 1) := by decide +kernel
theorem dd_L_law_584 : decode code 584 = .ok (.iadd, 1) := by decide +kernel
theorem dd_L_law_585 : decode code 585 = .ok (.iaload, 1) := by decide +kernel
theorem dd_L_law_586 : decode code 586 = .ok (.invokevirtual 72, 3) := by decide +kernel
theorem dd_L_law_589 : decode code 589 = .ok (.if_icmp .eq 888, 3) := by decide +kernel
theorem dd_L_law_592 : decode code 592 = .ok (.iconst 0, 1) := by decide +kernel
theorem dd_L_law_593 : decode code 593 = .ok (.ireturn, 1) := by decide +kernel
theorem dd_L_law_594 : decode code 594 = .ok (.aload_n 1, 1) := by decide +kernel
theorem dd_L_law_595 : decode code 595 = .ok (.aload_n 0, 1) := by decide +kernel
theorem dd_L_law_596 : decode code 596 = .ok (.iload_n 3, 1) := by decide +kernel
theorem dd_L_law_597 : decode code 597 = .ok (.iconst 1, 1) := by decide +kernel
theorem dd_L_law_598 : decode code 598 = .ok (.iadd, 1) := by decide +kernel
theorem dd_L_law_599 : decode code 599 = .ok (.iaload, 1) := by decide +kernel
theorem dd_L_law_600 : decode code 600 = .ok (.aload_n 0, 1) := by decide +kernel
theorem dd_L_law_601 : decode code 601 = .ok (.iload_n 3, 1) := by decide +kernel
theorem dd_L_law_602 : decode code 602 = .ok (.iconst 2, 1) := by decide +kernel
theorem dd_L_law_603 : decode code 603 = .ok (.iadd, 1) := by decide +kernel
theorem dd_L_law_604 : decode code 604 = .ok (.iaload, 1) := by decide +kernel
theorem dd_L_law_605 : decode code 605 = .ok (.invokevirtual 73, 3) := by decide +kernel
theorem dd_L_law_608 : decode code 608 = .ok (.aload_n 2, 1) := by decide +kernel
theorem dd_L_law_609 : decode code 609 = .ok (.aload_n 0, 1) := by decide +kernel
theorem dd_L_law_610 : decode code 610 = .ok (.iload_n 3, 1) := by decide +kernel
theorem dd_L_law_611 : decode code 611 = .ok (.iconst 1, 1) := by decide +kernel
theorem dd_L_law_612 : decode code 612 = .ok (.iadd, 1) := by decide +kernel
theorem dd_L_law_613 : decode code 613 = .ok (.iaload, 1) := by decide +kernel
theorem dd_L_law_614 : decode code 614 = .ok (.aload_n 0, 1) := by decide +kernel
theorem dd_L_law_615 : decode code 615 = .ok (.iload_n 3, 1) := by decide +kernel
theorem dd_L_law_616 : decode code 616 = .ok (.iconst 2, 1) := by decide +kernel
theorem dd_L_law_617 : decode code 617 = .ok (.iadd, 1) := by decide +kernel
theorem dd_L_law_618 : decode code 618 = .ok (.iaload, 1) := by decide +kernel
theorem dd_L_law_619 : decode code 619 = .ok (.invokevirtual 76, 3) := by decide +kernel
theorem dd_L_law_622 : decode code 622 = .ok (.if_icmp .eq 855, 3) := by decide +kernel
theorem dd_L_law_625 : decode code 625 = .ok (.iconst 0, 1) := by decide +kernel
theorem dd_L_law_626 : decode code 626 = .ok (.ireturn, 1) := by decide +kernel
theorem dd_L_law_627 : decode code 627 = .ok (.aload_n 1, 1) := by decide +kernel
theorem dd_L_law_628 : decode code 628 = .ok (.aload_n 0, 1) := by decide +kernel
theorem dd_L_law_629 : decode code 629 = .ok (.iload_n 3, 1) := by decide +kernel
theorem dd_L_law_630 : decode code 630 = .ok (.iconst 1, 1) := by decide +kernel
theorem dd_L_law_631 : decode code 631 = .ok (.iadd, 1) := by decide +kernel
theorem dd_L_law_632 : decode code 632 = .ok (.iaload, 1) := by decide +kernel
theorem dd_L_law_633 : decode code 633 = .ok (.aload_n 0, 1) := by decide +kernel
theorem dd_L_law_634 : decode code 634 = .ok (.iload_n 3, 1) := by decide +kernel
theorem dd_L_law_635 : decode code 635 = .ok (.iconst 2, 1) := by decide +kernel
theorem dd_L_law_636 : decode code 636 = .ok (.iadd, 1) := by decide +kernel
theorem dd_L_law_637 : decode code 637 = .ok (.iaload, 1) := by decide +kernel
theorem dd_L_law_638 : decode code 638 = .ok (.aload_n 0, 1) := by decide +kernel
theorem dd_L_law_639 : decode code 639 = .ok (.iload_n 3, 1) := by decide +kernel
theorem dd_L_law_640 : decode code 640 = .ok (.iconst 3, 1) := by decide +kernel
theorem dd_L_law_641 : decode code 641 = .ok (.iadd, 1) := by decide +kernel
theorem dd_L_law_642 : decode code 642 = .ok (.iaload, 1) := by decide +kernel
theorem dd_L_law_643 : decode code 643 = .ok (.invokevirtual 77, 3) := by decide +kernel
theorem dd_L_law_646 : decode code 646 = .ok (.aload_n 2, 1) := by decide +kernel
theorem dd_L_law_647 : decode code 647 = .ok (.aload_n 0, 1) := by decide +kernel
theorem dd_L_law_648 : decode code 648 = .ok (.iload_n 3, 1) := by decide +kernel
theorem dd_L_law_649 : decode code 649 = .ok (.iconst 1, 1) := by decide +kernel
theorem dd_L_law_650 : decode code 650 = .ok (.iadd, 1) := by decide +kernel
theorem dd_L_law_651 : decode code 651 = .ok (.iaload, 1) := by decide +kernel
theorem dd_L_law_652 : decode code 652 = .ok (.aload_n 0, 1) := by decide +kernel
theorem dd_L_law_653 : decode code 653 = .ok (.iload_n 3, 1) := by decide +kernel
theorem dd_L_law_654 : decode code 654 = .ok (.iconst 2, 1) := by decide +kernel
theorem dd_L_law_655 : decode code 655 = .ok (.iadd, 1) := by decide +kernel
theorem dd_L_law_656 : decode code 656 = .ok (.iaload, 1) := by decide +kernel
theorem dd_L_law_657 : decode code 657 = .ok (.aload_n 0, 1) := by decide +kernel
theorem dd_L_law_658 : decode code 658 = .ok (.iload_n 3, 1) := by decide +kernel
theorem dd_L_law_659 : decode code 659 = .ok (.iconst 3, 1) := by decide +kernel
theorem dd_L_law_660 : decode code 660 = .ok (.iadd, 1) := by decide +kernel
theorem dd_L_law_661 : decode code 661 = .ok (.iaload, 1) := by decide +kernel
theorem dd_L_law_662 : decode code 662 = .ok (.invokevirtual 80, 3) := by decide +kernel
theorem dd_L_law_665 : decode code 665 = .ok (.if_icmp .eq 812, 3) := by decide +kernel
theorem dd_L_law_668 : decode code 668 = .ok (.iconst 0, 1) := by decide +kernel
theorem dd_L_law_669 : decode code 669 = .ok (.ireturn, 1) := by decide +kernel
theorem dd_L_law_670 : decode code 670 = .ok (.aload_n 1, 1) := by decide +kernel
theorem dd_L_law_671 : decode code 671 = .ok (.aload_n 0, 1) := by decide +kernel
theorem dd_L_law_672 : decode code 672 = .ok (.iload_n 3, 1) := by decide +kernel
theorem dd_L_law_673 : decode code 673 = .ok (.iconst 1, 1) := by decide +kernel
theorem dd_L_law_674 : decode code 674 = .ok (.iadd, 1) := by decide +kernel
theorem dd_L_law_675 : decode code 675 = .ok (.iaload, 1) := by decide +kernel
theorem dd_L_law_676 : decode code 676 = .ok (.invokevirtual 81, 3) := by decide +kernel
theorem dd_L_law_679 : decode code 679 = .ok (.aload_n 2, 1) := by decide +kernel
theorem dd_L_law_680 : decode code 680 = .ok (.aload_n 0, 1) := by decide +kernel
theorem dd_L_law_681 : decode code 681 = .ok (.iload_n 3, 1) := by decide +kernel
theorem dd_L_law_682 : decode code 682 = .ok (.iconst 1, 1) := by decide +kernel
theorem dd_L_law_683 : decode code 683 = .ok (.iadd, 1) := by decide +kernel
theorem dd_L_law_684 : decode code 684 = .ok (.iaload, 1) := by decide +kernel
theorem dd_L_law_685 : decode code 685 = .ok (.invokevirtual 84, 3) := by decide +kernel
theorem dd_L_law_688 : decode code 688 = .ok (.if_icmp .eq 789, 3) := by decide +kernel
theorem dd_L_law_691 : decode code 691 = .ok (.iconst 0, 1) := by decide +kernel
theorem dd_L_law_692 : decode code 692 = .ok (.ireturn, 1) := by decide +kernel
theorem dd_L_law_693 : decode code 693 = .ok (.aload_n 1, 1) := by decide +kernel
theorem dd_L_law_694 : decode code 694 = .ok (.aload_n 0, 1) := by decide +kernel
theorem dd_L_law_695 : decode code 695 = .ok (.iload_n 3, 1) := by decide +kernel
theorem dd_L_law_696 : decode code 696 = .ok (.iconst 1, 1) := by decide +kernel
theorem dd_L_law_697 : decode code 697 = .ok (.iadd, 1) := by decide +kernel
theorem dd_L_law_698 : decode code 698 = .ok (.iaload, 1) := by decide +kernel
theorem dd_L_law_699 : decode code 699 = .ok (.aload_n 0, 1) := by decide +kernel
theorem dd_L_law_700 : decode code 700 = .ok (.iload_n 3, 1) := by decide +kernel
theorem dd_L_law_701 : decode code 701 = .ok (.iconst 2, 1) := by decide +kernel
theorem dd_L_law_702 : decode code 702 = .ok (.iadd, 1) := by decide +kernel
theorem dd_L_law_703 : decode code 703 = .ok (.iaload, 1) := by decide +kernel
theorem dd_L_law_704 : decode code 704 = .ok (.invokevirtual 85, 3) := by decide +kernel
theorem dd_L_law_707 : decode code 707 = .ok (.aload_n 2, 1) := by decide +kernel
theorem dd_L_law_708 : decode code 708 = .ok (.aload_n 0, 1) := by decide +kernel
theorem dd_L_law_709 : decode code 709 = .ok (.iload_n 3, 1) := by decide +kernel
theorem dd_L_law_710 : decode code 710 = .ok (.iconst 1, 1) := by decide +kernel
theorem dd_L_law_711 : decode code 711 = .ok (.iadd, 1) := by decide +kernel
theorem dd_L_law_712 : decode code 712 = .ok (.iaload, 1) := by decide +kernel
theorem dd_L_law_713 : decode code 713 = .ok (.aload_n 0, 1) := by decide +kernel
theorem dd_L_law_714 : decode code 714 = .ok (.iload_n 3, 1) := by decide +kernel
theorem dd_L_law_715 : decode code 715 = .ok (.iconst 2, 1) := by decide +kernel
theorem dd_L_law_716 : decode code 716 = .ok (.iadd, 1) := by decide +kernel
theorem dd_L_law_717 : decode code 717 = .ok (.iaload, 1) := by decide +kernel
theorem dd_L_law_718 : decode code 718 = .ok (.invokevirtual 88, 3) := by decide +kernel
theorem dd_L_law_721 : decode code 721 = .ok (.if_icmp .eq 756, 3) := by decide +kernel
theorem dd_L_law_724 : decode code 724 = .ok (.iconst 0, 1) := by decide +kernel
theorem dd_L_law_725 : decode code 725 = .ok (.ireturn, 1) := by decide +kernel
theorem dd_L_law_726 : decode code 726 = .ok (.aload_n 1, 1) := by decide +kernel
theorem dd_L_law_727 : decode code 727 = .ok (.aload_n 0, 1) := by decide +kernel
theorem dd_L_law_728 : decode code 728 = .ok (.iload_n 3, 1) := by decide +kernel
theorem dd_L_law_729 : decode code 729 = .ok (.iconst 1, 1) := by decide +kernel
theorem dd_L_law_730 : decode code 730 = .ok (.iadd, 1) := by decide +kernel
theorem dd_L_law_731 : decode code 731 = .ok (.iaload, 1) := by decide +kernel
theorem dd_L_law_732 : decode code 732 = .ok (.aload_n 0, 1) := by decide +kernel
theorem dd_L_law_733 : decode code 733 = .ok (.iload_n 3, 1) := by decide +kernel
theorem dd_L_law_734 : decode code 734 = .ok (.iconst 2, 1) := by decide +kernel
theorem dd_L_law_735 : decode code 735 = .ok (.iadd, 1) := by decide +kernel
theorem dd_L_law_736 : decode code 736 = .ok (.iaload, 1) := by decide +kernel
theorem dd_L_law_737 : decode code 737 = .ok (.invokevirtual 89, 3) := by decide +kernel
theorem dd_L_law_740 : decode code 740 = .ok (.aload_n 2, 1) := by decide +kernel
theorem dd_L_law_741 : decode code 741 = .ok (.aload_n 0, 1) := by decide +kernel
theorem dd_L_law_742 : decode code 742 = .ok (.iload_n 3, 1) := by decide +kernel
theorem dd_L_law_743 : decode code 743 = .ok (.iconst 1, 1) := by decide +kernel
theorem dd_L_law_744 : decode code 744 = .ok (.iadd, 1) := by decide +kernel
theorem dd_L_law_745 : decode code 745 = .ok (.iaload, 1) := by decide +kernel
theorem dd_L_law_746 : decode code 746 = .ok (.aload_n 0, 1) := by decide +kernel
theorem dd_L_law_747 : decode code 747 = .ok (.iload_n 3, 1) := by decide +kernel
theorem dd_L_law_748 : decode code 748 = .ok (.iconst 2, 1) := by decide +kernel
theorem dd_L_law_749 : decode code 749 = .ok (.iadd, 1) := by decide +kernel
theorem dd_L_law_750 : decode code 750 = .ok (.iaload, 1) := by decide +kernel
theorem dd_L_law_751 : decode code 751 = .ok (.invokevirtual 92, 3) := by decide +kernel
theorem dd_L_law_754 : decode code 754 = .ok (.if_icmp .eq 723, 3) := by decide +kernel
theorem dd_L_law_757 : decode code 757 = .ok (.iconst 0, 1) := by decide +kernel
theorem dd_L_law_758 : decode code 758 = .ok (.ireturn, 1) := by decide +kernel
theorem dd_L_law_759 : decode code 759 = .ok (.aload_n 1, 1) := by decide +kernel
theorem dd_L_law_760 : decode code 760 = .ok (.aload_n 0, 1) := by decide +kernel
theorem dd_L_law_761 : decode code 761 = .ok (.iload_n 3, 1) := by decide +kernel
theorem dd_L_law_762 : decode code 762 = .ok (.iconst 1, 1) := by decide +kernel
theorem dd_L_law_763 : decode code 763 = .ok (.iadd, 1) := by decide +kernel
theorem dd_L_law_764 : decode code 764 = .ok (.iaload, 1) := by decide +kernel
theorem dd_L_law_765 : decode code 765 = .ok (.aload_n 0, 1) := by decide +kernel
theorem dd_L_law_766 : decode code 766 = .ok (.iload_n 3, 1) := by decide +kernel
theorem dd_L_law_767 : decode code 767 = .ok (.iconst 2, 1) := by decide +kernel
theorem dd_L_law_768 : decode code 768 = .ok (.iadd, 1) := by decide +kernel
theorem dd_L_law_769 : decode code 769 = .ok (.iaload, 1) := by decide +kernel
theorem dd_L_law_770 : decode code 770 = .ok (.invokevirtual 93, 3) := by decide +kernel
theorem dd_L_law_773 : decode code 773 = .ok (.aload_n 2, 1) := by decide +kernel
theorem dd_L_law_774 : decode code 774 = .ok (.aload_n 0, 1) := by decide +kernel
theorem dd_L_law_775 : decode code 775 = .ok (.iload_n 3, 1) := by decide +kernel
theorem dd_L_law_776 : decode code 776 = .ok (.iconst 1, 1) := by decide +kernel
theorem dd_L_law_777 : decode code 777 = .ok (.iadd, 1) := by decide +kernel
theorem dd_L_law_778 : decode code 778 = .ok (.iaload, 1) := by decide +kernel
theorem dd_L_law_779 : decode code 779 = .ok (.aload_n 0, 1) := by decide +kernel
theorem dd_L_law_780 : decode code 780 = .ok (.iload_n 3, 1) := by decide +kernel
theorem dd_L_law_781 : decode code 781 = .ok (.iconst 2, 1) := by decide +kernel
theorem dd_L_law_782 : decode code 782 = .ok (.iadd, 1) := by decide +kernel
theorem dd_L_law_783 : decode code 783 = .ok (.iaload, 1) := by decide +kernel
theorem dd_L_law_784 : decode code 784 = .ok (.invokevirtual 96, 3) := by decide +kernel
theorem dd_L_law_787 : decode code 787 = .ok (.if_icmp .eq 690, 3) := by decide +kernel
theorem dd_L_law_790 : decode code 790 = .ok (.iconst 0, 1) := by decide +kernel
theorem dd_L_law_791 : decode code 791 = .ok (.ireturn, 1) := by decide +kernel
theorem dd_L_law_792 : decode code 792 = .ok (.aload_n 1, 1) := by decide +kernel
theorem dd_L_law_793 : decode code 793 = .ok (.aload_n 0, 1) := by decide +kernel
theorem dd_L_law_794 : decode code 794 = .ok (.iload_n 3, 1) := by decide +kernel
theorem dd_L_law_795 : decode code 795 = .ok (.iconst 1, 1) := by decide +kernel
theorem dd_L_law_796 : decode code 796 = .ok (.iadd, 1) := by decide +kernel
theorem dd_L_law_797 : decode code 797 = .ok (.iaload, 1) := by decide +kernel
theorem dd_L_law_798 : decode code 798 = .ok (.aload_n 0, 1) := by decide +kernel
theorem dd_L_law_799 : decode code 799 = .ok (.iload_n 3, 1) := by decide +kernel
theorem dd_L_law_800 : decode code 800 = .ok (.iconst 2, 1) := by decide +kernel
theorem dd_L_law_801 : decode code 801 = .ok (.iadd, 1) := by decide +kernel
theorem dd_L_law_802 : decode code 802 = .ok (.iaload, 1) := by decide +kernel
theorem dd_L_law_803 : decode code 803 = .ok (.invokevirtual 97, 3) := by decide +kernel
theorem dd_L_law_806 : decode code 806 = .ok (.aload_n 2, 1) := by decide +kernel
theorem dd_L_law_807 : decode code 807 = .ok (.aload_n 0, 1) := by decide +kernel
theorem dd_L_law_808 : decode code 808 = .ok (.iload_n 3, 1) := by decide +kernel
theorem dd_L_law_809 : decode code 809 = .ok (.iconst 1, 1) := by decide +kernel
theorem dd_L_law_810 : decode code 810 = .ok (.iadd, 1) := by decide +kernel
theorem dd_L_law_811 : decode code 811 = .ok (.iaload, 1) := by decide +kernel
theorem dd_L_law_812 : decode code 812 = .ok (.aload_n 0, 1) := by decide +kernel
theorem dd_L_law_813 : decode code 813 = .ok (.iload_n 3, 1) := by decide +kernel
theorem dd_L_law_814 : decode code 814 = .ok (.iconst 2, 1) := by decide +kernel
theorem dd_L_law_815 : decode code 815 = .ok (.iadd, 1) := by decide +kernel
theorem dd_L_law_816 : decode code 816 = .ok (.iaload, 1) := by decide +kernel
theorem dd_L_law_817 : decode code 817 = .ok (.invokevirtual 100, 3) := by decide +kernel
theorem dd_L_law_820 : decode code 820 = .ok (.if_icmp .eq 657, 3) := by decide +kernel
theorem dd_L_law_823 : decode code 823 = .ok (.iconst 0, 1) := by decide +kernel
theorem dd_L_law_824 : decode code 824 = .ok (.ireturn, 1) := by decide +kernel
theorem dd_L_law_825 : decode code 825 = .ok (.aload_n 1, 1) := by decide +kernel
theorem dd_L_law_826 : decode code 826 = .ok (.aload_n 0, 1) := by decide +kernel
theorem dd_L_law_827 : decode code 827 = .ok (.iload_n 3, 1) := by decide +kernel
theorem dd_L_law_828 : decode code 828 = .ok (.iconst 1, 1) := by decide +kernel
theorem dd_L_law_829 : decode code 829 = .ok (.iadd, 1) := by decide +kernel
theorem dd_L_law_830 : decode code 830 = .ok (.iaload, 1) := by decide +kernel
theorem dd_L_law_831 : decode code 831 = .ok (.aload_n 0, 1) := by decide +kernel
theorem dd_L_law_832 : decode code 832 = .ok (.iload_n 3, 1) := by decide +kernel
theorem dd_L_law_833 : decode code 833 = .ok (.iconst 2, 1) := by decide +kernel
theorem dd_L_law_834 : decode code 834 = .ok (.iadd, 1) := by decide +kernel
theorem dd_L_law_835 : decode code 835 = .ok (.iaload, 1) := by decide +kernel
theorem dd_L_law_836 : decode code 836 = .ok (.invokevirtual 101, 3) := by decide +kernel
theorem dd_L_law_839 : decode code 839 = .ok (.aload_n 2, 1) := by decide +kernel
theorem dd_L_law_840 : decode code 840 = .ok (.aload_n 0, 1) := by decide +kernel
theorem dd_L_law_841 : decode code 841 = .ok (.iload_n 3, 1) := by decide +kernel
theorem dd_L_law_842 : decode code 842 = .ok (.iconst 1, 1) := by decide +kernel
theorem dd_L_law_843 : decode code 843 = .ok (.iadd, 1) := by decide +kernel
theorem dd_L_law_844 : decode code 844 = .ok (.iaload, 1) := by decide +kernel
theorem dd_L_law_845 : decode code 845 = .ok (.aload_n 0, 1) := by decide +kernel
theorem dd_L_law_846 : decode code 846 = .ok (.iload_n 3, 1) := by decide +kernel
theorem dd_L_law_847 : decode code 847 = .ok (.iconst 2, 1) := by decide +kernel
theorem dd_L_law_848 : decode code 848 = .ok (.iadd, 1) := by decide +kernel
theorem dd_L_law_849 : decode code 849 = .ok (.iaload, 1) := by decide +kernel
theorem dd_L_law_850 : decode code 850 = .ok (.invokevirtual 104, 3) := by decide +kernel
theorem dd_L_law_853 : decode code 853 = .ok (.if_icmp .eq 624, 3) := by decide +kernel
theorem dd_L_law_856 : decode code 856 = .ok (.iconst 0, 1) := by decide +kernel
theorem dd_L_law_857 : decode code 857 = .ok (.ireturn, 1) := by decide +kernel
theorem dd_L_law_858 : decode code 858 = .ok (.aload_n 1, 1) := by decide +kernel
theorem dd_L_law_859 : decode code 859 = .ok (.aload_n 0, 1) := by decide +kernel
theorem dd_L_law_860 : decode code 860 = .ok (.iload_n 3, 1) := by decide +kernel
theorem dd_L_law_861 : decode code 861 = .ok (.iconst 1, 1) := by decide +kernel
theorem dd_L_law_862 : decode code 862 = .ok (.iadd, 1) := by decide +kernel
theorem dd_L_law_863 : decode code 863 = .ok (.iaload, 1) := by decide +kernel
theorem dd_L_law_864 : decode code 864 = .ok (.aload_n 0, 1) := by decide +kernel
theorem dd_L_law_865 : decode code 865 = .ok (.iload_n 3, 1) := by decide +kernel
theorem dd_L_law_866 : decode code 866 = .ok (.iconst 2, 1) := by decide +kernel
theorem dd_L_law_867 : decode code 867 = .ok (.iadd, 1) := by decide +kernel
theorem dd_L_law_868 : decode code 868 = .ok (.iaload, 1) := by decide +kernel
theorem dd_L_law_869 : decode code 869 = .ok (.invokevirtual 105, 3) := by decide +kernel
theorem dd_L_law_872 : decode code 872 = .ok (.aload_n 2, 1) := by decide +kernel
theorem dd_L_law_873 : decode code 873 = .ok (.aload_n 0, 1) := by decide +kernel
theorem dd_L_law_874 : decode code 874 = .ok (.iload_n 3, 1) := by decide +kernel
theorem dd_L_law_875 : decode code 875 = .ok (.iconst 1, 1) := by decide +kernel
theorem dd_L_law_876 : decode code 876 = .ok (.iadd, 1) := by decide +kernel
theorem dd_L_law_877 : decode code 877 = .ok (.iaload, 1) := by decide +kernel
theorem dd_L_law_878 : decode code 878 = .ok (.aload_n 0, 1) := by decide +kernel
theorem dd_L_law_879 : decode code 879 = .ok (.iload_n 3, 1) := by decide +kernel
theorem dd_L_law_880 : decode code 880 = .ok (.iconst 2, 1) := by decide +kernel
theorem dd_L_law_881 : decode code 881 = .ok (.iadd, 1) := by decide +kernel
theorem dd_L_law_882 : decode code 882 = .ok (.iaload, 1) := by decide +kernel
theorem dd_L_law_883 : decode code 883 = .ok (.invokevirtual 108, 3) := by decide +kernel
theorem dd_L_law_886 : decode code 886 = .ok (.if_icmp .eq 591, 3) := by decide +kernel
theorem dd_L_law_889 : decode code 889 = .ok (.iconst 0, 1) := by decide +kernel
theorem dd_L_law_890 : decode code 890 = .ok (.ireturn, 1) := by decide +kernel
theorem dd_L_law_891 : decode code 891 = .ok (.aload_n 1, 1) := by decide +kernel
theorem dd_L_law_892 : decode code 892 = .ok (.aload_n 0, 1) := by decide +kernel
theorem dd_L_law_893 : decode code 893 = .ok (.iload_n 3, 1) := by decide +kernel
theorem dd_L_law_894 : decode code 894 = .ok (.iconst 1, 1) := by decide +kernel
theorem dd_L_law_895 : decode code 895 = .ok (.iadd, 1) := by decide +kernel
theorem dd_L_law_896 : decode code 896 = .ok (.iaload, 1) := by decide +kernel
theorem dd_L_law_897 : decode code 897 = .ok (.invokevirtual 109, 3) := by decide +kernel
theorem dd_L_law_900 : decode code 900 = .ok (.aload_n 2, 1) := by decide +kernel
theorem dd_L_law_901 : decode code 901 = .ok (.aload_n 0, 1) := by decide +kernel
theorem dd_L_law_902 : decode code 902 = .ok (.iload_n 3, 1) := by decide +kernel
theorem dd_L_law_903 : decode code 903 = .ok (.iconst 1, 1) := by decide +kernel
theorem dd_L_law_904 : decode code 904 = .ok (.iadd, 1) := by decide +kernel
theorem dd_L_law_905 : decode code 905 = .ok (.iaload, 1) := by decide +kernel
theorem dd_L_law_906 : decode code 906 = .ok (.invokevirtual 112, 3) := by decide +kernel
theorem dd_L_law_909 : decode code 909 = .ok (.if_icmp .eq 568, 3) := by decide +kernel
theorem dd_L_law_912 : decode code 912 = .ok (.iconst 0, 1) := by decide +kernel
theorem dd_L_law_913 : decode code 913 = .ok (.ireturn, 1) := by decide +kernel
theorem dd_L_law_914 : decode code 914 = .ok (.aload_n 1, 1) := by decide +kernel
theorem dd_L_law_915 : decode code 915 = .ok (.aload_n 0, 1) := by decide +kernel
theorem dd_L_law_916 : decode code 916 = .ok (.iload_n 3, 1) := by decide +kernel
theorem dd_L_law_917 : decode code 917 = .ok (.iconst 1, 1) := by decide +kernel
theorem dd_L_law_918 : decode code 918 = .ok (.iadd, 1) := by decide +kernel
theorem dd_L_law_919 : decode code 919 = .ok (.iaload, 1) := by decide +kernel
theorem dd_L_law_920 : decode code 920 = .ok (.aload_n 0, 1) := by decide +kernel
theorem dd_L_law_921 : decode code 921 = .ok (.iload_n 3, 1) := by decide +kernel
theorem dd_L_law_922 : decode code 922 = .ok (.iconst 2, 1) := by decide +kernel
theorem dd_L_law_923 : decode code 923 = .ok (.iadd, 1) := by decide +kernel
theorem dd_L_law_924 : decode code 924 = .ok (.iaload, 1) := by decide +kernel
theorem dd_L_law_925 : decode code 925 = .ok (.aload_n 0, 1) := by decide +kernel
theorem dd_L_law_926 : decode code 926 = .ok (.iload_n 3, 1) := by decide +kernel
theorem dd_L_law_927 : decode code 927 = .ok (.iconst 3, 1) := by decide +kernel
theorem dd_L_law_928 : decode code 928 = .ok (.iadd, 1) := by decide +kernel
theorem dd_L_law_929 : decode code 929 = .ok (.iaload, 1) := by decide +kernel
theorem dd_L_law_930 : decode code 930 = .ok (.invokevirtual 113, 3) := by decide +kernel
theorem dd_L_law_933 : decode code 933 = .ok (.aload_n 2, 1) := by decide +kernel
theorem dd_L_law_934 : decode code 934 = .ok (.aload_n 0, 1) := by decide +kernel
theorem dd_L_law_935 : decode code 935 = .ok (.iload_n 3, 1) := by decide +kernel
theorem dd_L_law_936 : decode code 936 = .ok (.iconst 1, 1) := by decide +kernel
theorem dd_L_law_937 : decode code 937 = .ok (.iadd, 1) := by decide +kernel
theorem dd_L_law_938 : decode code 938 = .ok (.iaload, 1) := by decide +kernel
theorem dd_L_law_939 : decode code 939 = .ok (.aload_n 0, 1) := by decide +kernel
theorem dd_L_law_940 : decode code 940 = .ok (.iload_n 3, 1) := by decide +kernel
theorem dd_L_law_941 : decode code 941 = .ok (.iconst 2, 1) := by decide +kernel
theorem dd_L_law_942 : decode code 942 = .ok (.iadd, 1) := by decide +kernel
theorem dd_L_law_943 : decode code 943 = .ok (.iaload, 1) := by decide +kernel
theorem dd_L_law_944 : decode code 944 = .ok (.aload_n 0, 1) := by decide +kernel
theorem dd_L_law_945 : decode code 945 = .ok (.iload_n 3, 1) := by decide +kernel
theorem dd_L_law_946 : decode code 946 = .ok (.iconst 3, 1) := by decide +kernel
theorem dd_L_law_947 : decode code 947 = .ok (.iadd, 1) := by decide +kernel
theorem dd_L_law_948 : decode code 948 = .ok (.iaload, 1) := by decide +kernel
theorem dd_L_law_949 : decode code 949 = .ok (.invokevirtual 116, 3) := by decide +kernel
theorem dd_L_law_952 : decode code 952 = .ok (.if_icmp .eq 525, 3) := by decide +kernel
theorem dd_L_law_955 : decode code 955 = .ok (.iconst 0, 1) := by decide +kernel
theorem dd_L_law_956 : decode code 956 = .ok (.ireturn, 1) := by decide +kernel
theorem dd_L_law_957 : decode code 957 = .ok (.aload_n 1, 1) := by decide +kernel
theorem dd_L_law_958 : decode code 958 = .ok (.aload_n 0, 1) := by decide +kernel
theorem dd_L_law_959 : decode code 959 = .ok (.iload_n 3, 1) := by decide +kernel
theorem dd_L_law_960 : decode code 960 = .ok (.iconst 1, 1) := by decide +kernel
theorem dd_L_law_961 : decode code 961 = .ok (.iadd, 1) := by decide +kernel
theorem dd_L_law_962 : decode code 962 = .ok (.iaload, 1) := by decide +kernel
theorem dd_L_law_963 : decode code 963 = .ok (.aload_n 0, 1) := by decide +kernel
theorem dd_L_law_964 : decode code 964 = .ok (.iload_n 3, 1) := by decide +kernel
theorem dd_L_law_965 : decode code 965 = .ok (.iconst 2, 1) := by decide +kernel
theorem dd_L_law_966 : decode code 966 = .ok (.iadd, 1) := by decide +kernel
theorem dd_L_law_967 : decode code 967 = .ok (.iaload, 1) := by decide +kernel
theorem dd_L_law_968 : decode code 968 = .ok (.aload_n 0, 1) := by decide +kernel
theorem dd_L_law_969 : decode code 969 = .ok (.iload_n 3, 1) := by decide +kernel
theorem dd_L_law_970 : decode code 970 = .ok (.iconst 3, 1) := by decide +kernel
theorem dd_L_law_971 : decode code 971 = .ok (.iadd, 1) := by decide +kernel
theorem dd_L_law_972 : decode code 972 = .ok (.iaload, 1) := by decide +kernel
theorem dd_L_law_973 : decode code 973 = .ok (.invokevirtual 117, 3) := by decide +kernel
theorem dd_L_law_976 : decode code 976 = .ok (.aload_n 2, 1) := by decide +kernel
theorem dd_L_law_977 : decode code 977 = .ok (.aload_n 0, 1) := by decide +kernel
theorem dd_L_law_978 : decode code 978 = .ok (.iload_n 3, 1) := by decide +kernel
theorem dd_L_law_979 : decode code 979 = .ok (.iconst 1, 1) := by decide +kernel
theorem dd_L_law_980 : decode code 980 = .ok (.iadd, 1) := by decide +kernel
theorem dd_L_law_981 : decode code 981 = .ok (.iaload, 1) := by decide +kernel
theorem dd_L_law_982 : decode code 982 = .ok (.aload_n 0, 1) := by decide +kernel
theorem dd_L_law_983 : decode code 983 = .ok (.iload_n 3, 1) := by decide +kernel
theorem dd_L_law_984 : decode code 984 = .ok (.iconst 2, 1) := by decide +kernel
theorem dd_L_law_985 : decode code 985 = .ok (.iadd, 1) := by decide +kernel
theorem dd_L_law_986 : decode code 986 = .ok (.iaload, 1) := by decide +kernel
theorem dd_L_law_987 : decode code 987 = .ok (.aload_n 0, 1) := by decide +kernel
theorem dd_L_law_988 : decode code 988 = .ok (.iload_n 3, 1) := by decide +kernel
theorem dd_L_law_989 : decode code 989 = .ok (.iconst 3, 1) := by decide +kernel
theorem dd_L_law_990 : decode code 990 = .ok (.iadd, 1) := by decide +kernel
theorem dd_L_law_991 : decode code 991 = .ok (.iaload, 1) := by decide +kernel
theorem dd_L_law_992 : decode code 992 = .ok (.invokevirtual 121, 3) := by decide +kernel
theorem dd_L_law_995 : decode code 995 = .ok (.lcmp, 1) := by decide +kernel
theorem dd_L_law_996 : decode code 996 = .ok (.ifCond .eq 481, 3) := by decide +kernel
theorem dd_L_law_999 : decode code 999 = .ok (.iconst 0, 1) := by decide +kernel
theorem dd_L_law_1000 : decode code 1000 = .ok (.ireturn, 1) := by decide +kernel
theorem dd_L_law_1001 : decode code 1001 = .ok (.aload_n 1, 1) := by decide +kernel
theorem dd_L_law_1002 : decode code 1002 = .ok (.aload_n 0, 1) := by decide +kernel
theorem dd_L_law_1003 : decode code 1003 = .ok (.iload_n 3, 1) := by decide +kernel
theorem dd_L_law_1004 : decode code 1004 = .ok (.iconst 1, 1) := by decide +kernel
theorem dd_L_law_1005 : decode code 1005 = .ok (.iadd, 1) := by decide +kernel
theorem dd_L_law_1006 : decode code 1006 = .ok (.iaload, 1) := by decide +kernel
theorem dd_L_law_1007 : decode code 1007 = .ok (.aload_n 0, 1) := by decide +kernel
theorem dd_L_law_1008 : decode code 1008 = .ok (.iload_n 3, 1) := by decide +kernel
theorem dd_L_law_1009 : decode code 1009 = .ok (.iconst 2, 1) := by decide +kernel
theorem dd_L_law_1010 : decode code 1010 = .ok (.iadd, 1) := by decide +kernel
theorem dd_L_law_1011 : decode code 1011 = .ok (.iaload, 1) := by decide +kernel
theorem dd_L_law_1012 : decode code 1012 = .ok (.aload_n 0, 1) := by decide +kernel
theorem dd_L_law_1013 : decode code 1013 = .ok (.iload_n 3, 1) := by decide +kernel
theorem dd_L_law_1014 : decode code 1014 = .ok (.iconst 3, 1) := by decide +kernel
theorem dd_L_law_1015 : decode code 1015 = .ok (.iadd, 1) := by decide +kernel
theorem dd_L_law_1016 : decode code 1016 = .ok (.iaload, 1) := by decide +kernel
theorem dd_L_law_1017 : decode code 1017 = .ok (.invokevirtual 122, 3) := by decide +kernel
theorem dd_L_law_1020 : decode code 1020 = .ok (.aload_n 2, 1) := by decide +kernel
theorem dd_L_law_1021 : decode code 1021 = .ok (.aload_n 0, 1) := by decide +kernel
theorem dd_L_law_1022 : decode code 1022 = .ok (.iload_n 3, 1) := by decide +kernel
theorem dd_L_law_1023 : decode code 1023 = .ok (.iconst 1, 1) := by decide +kernel
theorem dd_L_law_1024 : decode code 1024 = .ok (.iadd, 1) := by decide +kernel
theorem dd_L_law_1025 : decode code 1025 = .ok (.iaload, 1) := by decide +kernel
theorem dd_L_law_1026 : decode code 1026 = .ok (.aload_n 0, 1) := by decide +kernel
theorem dd_L_law_1027 : decode code 1027 = .ok (.iload_n 3, 1) := by decide +kernel
theorem dd_L_law_1028 : decode code 1028 = .ok (.iconst 2, 1) := by decide +kernel
theorem dd_L_law_1029 : decode code 1029 = .ok (.iadd, 1) := by decide +kernel
theorem dd_L_law_1030 : decode code 1030 = .ok (.iaload, 1) := by decide +kernel
theorem dd_L_law_1031 : decode code 1031 = .ok (.aload_n 0, 1) := by decide +kernel
theorem dd_L_law_1032 : decode code 1032 = .ok (.iload_n 3, 1) := by decide +kernel
theorem dd_L_law_1033 : decode code 1033 = .ok (.iconst 3, 1) := by decide +kernel
theorem dd_L_law_1034 : decode code 1034 = .ok (.iadd, 1) := by decide +kernel
theorem dd_L_law_1035 : decode code 1035 = .ok (.iaload, 1) := by decide +kernel
theorem dd_L_law_1036 : decode code 1036 = .ok (.invokevirtual 125, 3) := by decide +kernel
theorem dd_L_law_1039 : decode code 1039 = .ok (.lcmp, 1) := by decide +kernel
theorem dd_L_law_1040 : decode code 1040 = .ok (.ifCond .eq 437, 3) := by decide +kernel
theorem dd_L_law_1043 : decode code 1043 = .ok (.iconst 0, 1) := by decide +kernel
theorem dd_L_law_1044 : decode code 1044 = .ok (.ireturn, 1) := by decide +kernel
theorem dd_L_law_1045 : decode code 1045 = .ok (.aload_n 1, 1) := by decide +kernel
theorem dd_L_law_1046 : decode code 1046 = .ok (.aload_n 0, 1) := by decide +kernel
theorem dd_L_law_1047 : decode code 1047 = .ok (.iload_n 3, 1) := by decide +kernel
theorem dd_L_law_1048 : decode code 1048 = .ok (.iconst 1, 1) := by decide +kernel
theorem dd_L_law_1049 : decode code 1049 = .ok (.iadd, 1) := by decide +kernel
theorem dd_L_law_1050 : decode code 1050 = .ok (.iaload, 1) := by decide +kernel
theorem dd_L_law_1051 : decode code 1051 = .ok (.aload_n 0, 1) := by decide +kernel
theorem dd_L_law_1052 : decode code 1052 = .ok (.iload_n 3, 1) := by decide +kernel
theorem dd_L_law_1053 : decode code 1053 = .ok (.iconst 2, 1) := by decide +kernel
theorem dd_L_law_1054 : decode code 1054 = .ok (.iadd, 1) := by decide +kernel
theorem dd_L_law_1055 : decode code 1055 = .ok (.iaload, 1) := by decide +kernel
theorem dd_L_law_1056 : decode code 1056 = .ok (.aload_n 0, 1) := by decide +kernel
theorem dd_L_law_1057 : decode code 1057 = .ok (.iload_n 3, 1) := by decide +kernel
theorem dd_L_law_1058 : decode code 1058 = .ok (.iconst 3, 1) := by decide +kernel
theorem dd_L_law_1059 : decode code 1059 = .ok (.iadd, 1) := by decide +kernel
theorem dd_L_law_1060 : decode code 1060 = .ok (.iaload, 1) := by decide +kernel
theorem dd_L_law_1061 : decode code 1061 = .ok (.invokevirtual 126, 3) := by decide +kernel
theorem dd_L_law_1064 : decode code 1064 = .ok (.aload_n 2, 1) := by decide +kernel
theorem dd_L_law_1065 : decode code 1065 = .ok (.aload_n 0, 1) := by decide +kernel
theorem dd_L_law_1066 : decode code 1066 = .ok (.iload_n 3, 1) := by decide +kernel
theorem dd_L_law_1067 : decode code 1067 = .ok (.iconst 1, 1) := by decide +kernel
theorem dd_L_law_1068 : decode code 1068 = .ok (.iadd, 1) := by decide +kernel
theorem dd_L_law_1069 : decode code 1069 = .ok (.iaload, 1) := by decide +kernel
theorem dd_L_law_1070 : decode code 1070 = .ok (.aload_n 0, 1) := by decide +kernel
theorem dd_L_law_1071 : decode code 1071 = .ok (.iload_n 3, 1) := by decide +kernel
theorem dd_L_law_1072 : decode code 1072 = .ok (.iconst 2, 1) := by decide +kernel
theorem dd_L_law_1073 : decode code 1073 = .ok (.iadd, 1) := by decide +kernel
theorem dd_L_law_1074 : decode code 1074 = .ok (.iaload, 1) := by decide +kernel
theorem dd_L_law_1075 : decode code 1075 = .ok (.aload_n 0, 1) := by decide +kernel
theorem dd_L_law_1076 : decode code 1076 = .ok (.iload_n 3, 1) := by decide +kernel
theorem dd_L_law_1077 : decode code 1077 = .ok (.iconst 3, 1) := by decide +kernel
theorem dd_L_law_1078 : decode code 1078 = .ok (.iadd, 1) := by decide +kernel
theorem dd_L_law_1079 : decode code 1079 = .ok (.iaload, 1) := by decide +kernel
theorem dd_L_law_1080 : decode code 1080 = .ok (.invokevirtual 129, 3) := by decide +kernel
theorem dd_L_law_1083 : decode code 1083 = .ok (.if_icmp .eq 394, 3) := by decide +kernel
theorem dd_L_law_1086 : decode code 1086 = .ok (.iconst 0, 1) := by decide +kernel
theorem dd_L_law_1087 : decode code 1087 = .ok (.ireturn, 1) := by decide +kernel
theorem dd_L_law_1088 : decode code 1088 = .ok (.aload_n 1, 1) := by decide +kernel
theorem dd_L_law_1089 : decode code 1089 = .ok (.aload_n 0, 1) := by decide +kernel
theorem dd_L_law_1090 : decode code 1090 = .ok (.iload_n 3, 1) := by decide +kernel
theorem dd_L_law_1091 : decode code 1091 = .ok (.iconst 1, 1) := by decide +kernel
theorem dd_L_law_1092 : decode code 1092 = .ok (.iadd, 1) := by decide +kernel
theorem dd_L_law_1093 : decode code 1093 = .ok (.iaload, 1) := by decide +kernel
theorem dd_L_law_1094 : decode code 1094 = .ok (.invokevirtual 130, 3) := by decide +kernel
theorem dd_L_law_1097 : decode code 1097 = .ok (.aload_n 2, 1) := by decide +kernel
theorem dd_L_law_1098 : decode code 1098 = .ok (.aload_n 0, 1) := by decide +kernel
theorem dd_L_law_1099 : decode code 1099 = .ok (.iload_n 3, 1) := by decide +kernel
theorem dd_L_law_1100 : decode code 1100 = .ok (.iconst 1, 1) := by decide +kernel
theorem dd_L_law_1101 : decode code 1101 = .ok (.iadd, 1) := by decide +kernel
theorem dd_L_law_1102 : decode code 1102 = .ok (.iaload, 1) := by decide +kernel
theorem dd_L_law_1103 : decode code 1103 = .ok (.invokevirtual 133, 3) := by decide +kernel
theorem dd_L_law_1106 : decode code 1106 = .ok (.if_icmp .eq 371, 3) := by decide +kernel
theorem dd_L_law_1109 : decode code 1109 = .ok (.iconst 0, 1) := by decide +kernel
theorem dd_L_law_1110 : decode code 1110 = .ok (.ireturn, 1) := by decide +kernel
theorem dd_L_law_1111 : decode code 1111 = .ok (.aload_n 1, 1) := by decide +kernel
theorem dd_L_law_1112 : decode code 1112 = .ok (.aload_n 0, 1) := by decide +kernel
theorem dd_L_law_1113 : decode code 1113 = .ok (.iload_n 3, 1) := by decide +kernel
theorem dd_L_law_1114 : decode code 1114 = .ok (.iconst 1, 1) := by decide +kernel
theorem dd_L_law_1115 : decode code 1115 = .ok (.iadd, 1) := by decide +kernel
theorem dd_L_law_1116 : decode code 1116 = .ok (.iaload, 1) := by decide +kernel
theorem dd_L_law_1117 : decode code 1117 = .ok (.invokevirtual 134, 3) := by decide +kernel
theorem dd_L_law_1120 : decode code 1120 = .ok (.aload_n 2, 1) := by decide +kernel
theorem dd_L_law_1121 : decode code 1121 = .ok (.aload_n 0, 1) := by decide +kernel
theorem dd_L_law_1122 : decode code 1122 = .ok (.iload_n 3, 1) := by decide +kernel
theorem dd_L_law_1123 : decode code 1123 = .ok (.iconst 1, 1) := by decide +kernel
theorem dd_L_law_1124 : decode code 1124 = .ok (.iadd, 1) := by decide +kernel
theorem dd_L_law_1125 : decode code 1125 = .ok (.iaload, 1) := by decide +kernel
theorem dd_L_law_1126 : decode code 1126 = .ok (.invokevirtual 137, 3) := by decide +kernel
theorem dd_L_law_1129 : decode code 1129 = .ok (.if_icmp .eq 348, 3) := by decide +kernel
theorem dd_L_law_1132 : decode code 1132 = .ok (.iconst 0, 1) := by decide +kernel
theorem dd_L_law_1133 : decode code 1133 = .ok (.ireturn, 1) := by decide +kernel
theorem dd_L_law_1134 : decode code 1134 = .ok (.aload_n 1, 1) := by decide +kernel
theorem dd_L_law_1135 : decode code 1135 = .ok (.aload_n 0, 1) := by decide +kernel
theorem dd_L_law_1136 : decode code 1136 = .ok (.iload_n 3, 1) := by decide +kernel
theorem dd_L_law_1137 : decode code 1137 = .ok (.iconst 1, 1) := by decide +kernel
theorem dd_L_law_1138 : decode code 1138 = .ok (.iadd, 1) := by decide +kernel
theorem dd_L_law_1139 : decode code 1139 = .ok (.iaload, 1) := by decide +kernel
theorem dd_L_law_1140 : decode code 1140 = .ok (.invokevirtual 138, 3) := by decide +kernel
theorem dd_L_law_1143 : decode code 1143 = .ok (.aload_n 2, 1) := by decide +kernel
theorem dd_L_law_1144 : decode code 1144 = .ok (.aload_n 0, 1) := by decide +kernel
theorem dd_L_law_1145 : decode code 1145 = .ok (.iload_n 3, 1) := by decide +kernel
theorem dd_L_law_1146 : decode code 1146 = .ok (.iconst 1, 1) := by decide +kernel
theorem dd_L_law_1147 : decode code 1147 = .ok (.iadd, 1) := by decide +kernel
theorem dd_L_law_1148 : decode code 1148 = .ok (.iaload, 1) := by decide +kernel
theorem dd_L_law_1149 : decode code 1149 = .ok (.invokevirtual 141, 3) := by decide +kernel
theorem dd_L_law_1152 : decode code 1152 = .ok (.if_icmp .eq 325, 3) := by decide +kernel
theorem dd_L_law_1155 : decode code 1155 = .ok (.iconst 0, 1) := by decide +kernel
theorem dd_L_law_1156 : decode code 1156 = .ok (.ireturn, 1) := by decide +kernel
theorem dd_L_law_1157 : decode code 1157 = .ok (.aload_n 1, 1) := by decide +kernel
theorem dd_L_law_1158 : decode code 1158 = .ok (.aload_n 0, 1) := by decide +kernel
theorem dd_L_law_1159 : decode code 1159 = .ok (.iload_n 3, 1) := by decide +kernel
theorem dd_L_law_1160 : decode code 1160 = .ok (.iconst 1, 1) := by decide +kernel
theorem dd_L_law_1161 : decode code 1161 = .ok (.iadd, 1) := by decide +kernel
theorem dd_L_law_1162 : decode code 1162 = .ok (.iaload, 1) := by decide +kernel
theorem dd_L_law_1163 : decode code 1163 = .ok (.invokevirtual 142, 3) := by decide +kernel
theorem dd_L_law_1166 : decode code 1166 = .ok (.aload_n 2, 1) := by decide +kernel
theorem dd_L_law_1167 : decode code 1167 = .ok (.aload_n 0, 1) := by decide +kernel
theorem dd_L_law_1168 : decode code 1168 = .ok (.iload_n 3, 1) := by decide +kernel
theorem dd_L_law_1169 : decode code 1169 = .ok (.iconst 1, 1) := by decide +kernel
theorem dd_L_law_1170 : decode code 1170 = .ok (.iadd, 1) := by decide +kernel
theorem dd_L_law_1171 : decode code 1171 = .ok (.iaload, 1) := by decide +kernel
theorem dd_L_law_1172 : decode code 1172 = .ok (.invokevirtual 145, 3) := by decide +kernel
theorem dd_L_law_1175 : decode code 1175 = .ok (.if_icmp .eq 302, 3) := by decide +kernel
theorem dd_L_law_1178 : decode code 1178 = .ok (.iconst 0, 1) := by decide +kernel
theorem dd_L_law_1179 : decode code 1179 = .ok (.ireturn, 1) := by decide +kernel
theorem dd_L_law_1180 : decode code 1180 = .ok (.aload_n 1, 1) := by decide +kernel
theorem dd_L_law_1181 : decode code 1181 = .ok (.aload_n 0, 1) := by decide +kernel
theorem dd_L_law_1182 : decode code 1182 = .ok (.iload_n 3, 1) := by decide +kernel
theorem dd_L_law_1183 : decode code 1183 = .ok (.iconst 1, 1) := by decide +kernel
theorem dd_L_law_1184 : decode code 1184 = .ok (.iadd, 1) := by decide +kernel
theorem dd_L_law_1185 : decode code 1185 = .ok (.iaload, 1) := by decide +kernel
theorem dd_L_law_1186 : decode code 1186 = .ok (.aload_n 0, 1) := by decide +kernel
theorem dd_L_law_1187 : decode code 1187 = .ok (.iload_n 3, 1) := by decide +kernel
theorem dd_L_law_1188 : decode code 1188 = .ok (.iconst 2, 1) := by decide +kernel
theorem dd_L_law_1189 : decode code 1189 = .ok (.iadd, 1) := by decide +kernel
theorem dd_L_law_1190 : decode code 1190 = .ok (.iaload, 1) := by decide +kernel
theorem dd_L_law_1191 : decode code 1191 = .ok (.invokevirtual 146, 3) := by decide +kernel
theorem dd_L_law_1194 : decode code 1194 = .ok (.aload_n 2, 1) := by decide +kernel
theorem dd_L_law_1195 : decode code 1195 = .ok (.aload_n 0, 1) := by decide +kernel
theorem dd_L_law_1196 : decode code 1196 = .ok (.iload_n 3, 1) := by decide +kernel
theorem dd_L_law_1197 : decode code 1197 = .ok (.iconst 1, 1) := by decide +kernel
theorem dd_L_law_1198 : decode code 1198 = .ok (.iadd, 1) := by decide +kernel
theorem dd_L_law_1199 : decode code 1199 = .ok (.iaload, 1) := by decide +kernel
theorem dd_L_law_1200 : decode code 1200 = .ok (.aload_n 0, 1) := by decide +kernel
theorem dd_L_law_1201 : decode code 1201 = .ok (.iload_n 3, 1) := by decide +kernel
theorem dd_L_law_1202 : decode code 1202 = .ok (.iconst 2, 1) := by decide +kernel
theorem dd_L_law_1203 : decode code 1203 = .ok (.iadd, 1) := by decide +kernel
theorem dd_L_law_1204 : decode code 1204 = .ok (.iaload, 1) := by decide +kernel
theorem dd_L_law_1205 : decode code 1205 = .ok (.invokevirtual 149, 3) := by decide +kernel
theorem dd_L_law_1208 : decode code 1208 = .ok (.if_icmp .eq 269, 3) := by decide +kernel
theorem dd_L_law_1211 : decode code 1211 = .ok (.iconst 0, 1) := by decide +kernel
theorem dd_L_law_1212 : decode code 1212 = .ok (.ireturn, 1) := by decide +kernel
theorem dd_L_law_1213 : decode code 1213 = .ok (.aload_n 1, 1) := by decide +kernel
theorem dd_L_law_1214 : decode code 1214 = .ok (.aload_n 0, 1) := by decide +kernel
theorem dd_L_law_1215 : decode code 1215 = .ok (.iload_n 3, 1) := by decide +kernel
theorem dd_L_law_1216 : decode code 1216 = .ok (.iconst 1, 1) := by decide +kernel
theorem dd_L_law_1217 : decode code 1217 = .ok (.iadd, 1) := by decide +kernel
theorem dd_L_law_1218 : decode code 1218 = .ok (.iaload, 1) := by decide +kernel
theorem dd_L_law_1219 : decode code 1219 = .ok (.aload_n 0, 1) := by decide +kernel
theorem dd_L_law_1220 : decode code 1220 = .ok (.iload_n 3, 1) := by decide +kernel
theorem dd_L_law_1221 : decode code 1221 = .ok (.iconst 2, 1) := by decide +kernel
theorem dd_L_law_1222 : decode code 1222 = .ok (.iadd, 1) := by decide +kernel
theorem dd_L_law_1223 : decode code 1223 = .ok (.iaload, 1) := by decide +kernel
theorem dd_L_law_1224 : decode code 1224 = .ok (.aload_n 0, 1) := by decide +kernel
theorem dd_L_law_1225 : decode code 1225 = .ok (.iload_n 3, 1) := by decide +kernel
theorem dd_L_law_1226 : decode code 1226 = .ok (.iconst 3, 1) := by decide +kernel
theorem dd_L_law_1227 : decode code 1227 = .ok (.iadd, 1) := by decide +kernel
theorem dd_L_law_1228 : decode code 1228 = .ok (.iaload, 1) := by decide +kernel
theorem dd_L_law_1229 : decode code 1229 = .ok (.invokevirtual 150, 3) := by decide +kernel
theorem dd_L_law_1232 : decode code 1232 = .ok (.aload_n 2, 1) := by decide +kernel
theorem dd_L_law_1233 : decode code 1233 = .ok (.aload_n 0, 1) := by decide +kernel
theorem dd_L_law_1234 : decode code 1234 = .ok (.iload_n 3, 1) := by decide +kernel
theorem dd_L_law_1235 : decode code 1235 = .ok (.iconst 1, 1) := by decide +kernel
theorem dd_L_law_1236 : decode code 1236 = .ok (.iadd, 1) := by decide +kernel
theorem dd_L_law_1237 : decode code 1237 = .ok (.iaload, 1) := by decide +kernel
theorem dd_L_law_1238 : decode code 1238 = .ok (.aload_n 0, 1) := by decide +kernel
theorem dd_L_law_1239 : decode code 1239 = .ok (.iload_n 3, 1) := by decide +kernel
theorem dd_L_law_1240 : decode code 1240 = .ok (.iconst 2, 1) := by decide +kernel
theorem dd_L_law_1241 : decode code 1241 = .ok (.iadd, 1) := by decide +kernel
theorem dd_L_law_1242 : decode code 1242 = .ok (.iaload, 1) := by decide +kernel
theorem dd_L_law_1243 : decode code 1243 = .ok (.aload_n 0, 1) := by decide +kernel
theorem dd_L_law_1244 : decode code 1244 = .ok (.iload_n 3, 1) := by decide +kernel
theorem dd_L_law_1245 : decode code 1245 = .ok (.iconst 3, 1) := by decide +kernel
theorem dd_L_law_1246 : decode code 1246 = .ok (.iadd, 1) := by decide +kernel
theorem dd_L_law_1247 : decode code 1247 = .ok (.iaload, 1) := by decide +kernel
theorem dd_L_law_1248 : decode code 1248 = .ok (.invokevirtual 153, 3) := by decide +kernel
theorem dd_L_law_1251 : decode code 1251 = .ok (.if_icmp .eq 226, 3) := by decide +kernel
theorem dd_L_law_1254 : decode code 1254 = .ok (.iconst 0, 1) := by decide +kernel
theorem dd_L_law_1255 : decode code 1255 = .ok (.ireturn, 1) := by decide +kernel
theorem dd_L_law_1256 : decode code 1256 = .ok (.aload_n 1, 1) := by decide +kernel
theorem dd_L_law_1257 : decode code 1257 = .ok (.aload_n 0, 1) := by decide +kernel
theorem dd_L_law_1258 : decode code 1258 = .ok (.iload_n 3, 1) := by decide +kernel
theorem dd_L_law_1259 : decode code 1259 = .ok (.iconst 1, 1) := by decide +kernel
theorem dd_L_law_1260 : decode code 1260 = .ok (.iadd, 1) := by decide +kernel
theorem dd_L_law_1261 : decode code 1261 = .ok (.iaload, 1) := by decide +kernel
theorem dd_L_law_1262 : decode code 1262 = .ok (.invokevirtual 154, 3) := by decide +kernel
theorem dd_L_law_1265 : decode code 1265 = .ok (.aload_n 2, 1) := by decide +kernel
theorem dd_L_law_1266 : decode code 1266 = .ok (.aload_n 0, 1) := by decide +kernel
theorem dd_L_law_1267 : decode code 1267 = .ok (.iload_n 3, 1) := by decide +kernel
theorem dd_L_law_1268 : decode code 1268 = .ok (.iconst 1, 1) := by decide +kernel
theorem dd_L_law_1269 : decode code 1269 = .ok (.iadd, 1) := by decide +kernel
theorem dd_L_law_1270 : decode code 1270 = .ok (.iaload, 1) := by decide +kernel
theorem dd_L_law_1271 : decode code 1271 = .ok (.invokevirtual 157, 3) := by decide +kernel
theorem dd_L_law_1274 : decode code 1274 = .ok (.if_icmp .eq 203, 3) := by decide +kernel
theorem dd_L_law_1277 : decode code 1277 = .ok (.iconst 0, 1) := by decide +kernel
theorem dd_L_law_1278 : decode code 1278 = .ok (.ireturn, 1) := by decide +kernel
theorem dd_L_law_1279 : decode code 1279 = .ok (.aload_n 1, 1) := by decide +kernel
theorem dd_L_law_1280 : decode code 1280 = .ok (.aload_n 0, 1) := by decide +kernel
theorem dd_L_law_1281 : decode code 1281 = .ok (.iload_n 3, 1) := by decide +kernel
theorem dd_L_law_1282 : decode code 1282 = .ok (.iconst 1, 1) := by decide +kernel
theorem dd_L_law_1283 : decode code 1283 = .ok (.iadd, 1) := by decide +kernel
theorem dd_L_law_1284 : decode code 1284 = .ok (.iaload, 1) := by decide +kernel
theorem dd_L_law_1285 : decode code 1285 = .ok (.invokevirtual 158, 3) := by decide +kernel
theorem dd_L_law_1288 : decode code 1288 = .ok (.aload_n 2, 1) := by decide +kernel
theorem dd_L_law_1289 : decode code 1289 = .ok (.aload_n 0, 1) := by decide +kernel
theorem dd_L_law_1290 : decode code 1290 = .ok (.iload_n 3, 1) := by decide +kernel
theorem dd_L_law_1291 : decode code 1291 = .ok (.iconst 1, 1) := by decide +kernel
theorem dd_L_law_1292 : decode code 1292 = .ok (.iadd, 1) := by decide +kernel
theorem dd_L_law_1293 : decode code 1293 = .ok (.iaload, 1) := by decide +kernel
theorem dd_L_law_1294 : decode code 1294 = .ok (.invokevirtual 161, 3) := by decide +kernel
theorem dd_L_law_1297 : decode code 1297 = .ok (.if_icmp .eq 180, 3) := by decide +kernel
theorem dd_L_law_1300 : decode code 1300 = .ok (.iconst 0, 1) := by decide +kernel
theorem dd_L_law_1301 : decode code 1301 = .ok (.ireturn, 1) := by decide +kernel
theorem dd_L_law_1302 : decode code 1302 = .ok (.aload_n 1, 1) := by decide +kernel
theorem dd_L_law_1303 : decode code 1303 = .ok (.aload_n 0, 1) := by decide +kernel
theorem dd_L_law_1304 : decode code 1304 = .ok (.iload_n 3, 1) := by decide +kernel
theorem dd_L_law_1305 : decode code 1305 = .ok (.iconst 1, 1) := by decide +kernel
theorem dd_L_law_1306 : decode code 1306 = .ok (.iadd, 1) := by decide +kernel
theorem dd_L_law_1307 : decode code 1307 = .ok (.iaload, 1) := by decide +kernel
theorem dd_L_law_1308 : decode code 1308 = .ok (.aload_n 0, 1) := by decide +kernel
theorem dd_L_law_1309 : decode code 1309 = .ok (.iload_n 3, 1) := by decide +kernel
theorem dd_L_law_1310 : decode code 1310 = .ok (.iconst 2, 1) := by decide +kernel
theorem dd_L_law_1311 : decode code 1311 = .ok (.iadd, 1) := by decide +kernel
theorem dd_L_law_1312 : decode code 1312 = .ok (.iaload, 1) := by decide +kernel
theorem dd_L_law_1313 : decode code 1313 = .ok (.aload_n 0, 1) := by decide +kernel
theorem dd_L_law_1314 : decode code 1314 = .ok (.iload_n 3, 1) := by decide +kernel
theorem dd_L_law_1315 : decode code 1315 = .ok (.iconst 3, 1) := by decide +kernel
theorem dd_L_law_1316 : decode code 1316 = .ok (.iadd, 1) := by decide +kernel
theorem dd_L_law_1317 : decode code 1317 = .ok (.iaload, 1) := by decide +kernel
theorem dd_L_law_1318 : decode code 1318 = .ok (.invokevirtual 162, 3) := by decide +kernel
theorem dd_L_law_1321 : decode code 1321 = .ok (.aload_n 2, 1) := by decide +kernel
theorem dd_L_law_1322 : decode code 1322 = .ok (.aload_n 0, 1) := by decide +kernel
theorem dd_L_law_1323 : decode code 1323 = .ok (.iload_n 3, 1) := by decide +kernel
theorem dd_L_law_1324 : decode code 1324 = .ok (.iconst 1, 1) := by decide +kernel
theorem dd_L_law_1325 : decode code 1325 = .ok (.iadd, 1) := by decide +kernel
theorem dd_L_law_1326 : decode code 1326 = .ok (.iaload, 1) := by decide +kernel
theorem dd_L_law_1327 : decode code 1327 = .ok (.aload_n 0, 1) := by decide +kernel
theorem dd_L_law_1328 : decode code 1328 = .ok (.iload_n 3, 1) := by decide +kernel
theorem dd_L_law_1329 : decode code 1329 = .ok (.iconst 2, 1) := by decide +kernel
theorem dd_L_law_1330 : decode code 1330 = .ok (.iadd, 1) := by decide +kernel
theorem dd_L_law_1331 : decode code 1331 = .ok (.iaload, 1) := by decide +kernel
theorem dd_L_law_1332 : decode code 1332 = .ok (.aload_n 0, 1) := by decide +kernel
theorem dd_L_law_1333 : decode code 1333 = .ok (.iload_n 3, 1) := by decide +kernel
theorem dd_L_law_1334 : decode code 1334 = .ok (.iconst 3, 1) := by decide +kernel
theorem dd_L_law_1335 : decode code 1335 = .ok (.iadd, 1) := by decide +kernel
theorem dd_L_law_1336 : decode code 1336 = .ok (.iaload, 1) := by decide +kernel
theorem dd_L_law_1337 : decode code 1337 = .ok (.invokevirtual 165, 3) := by decide +kernel
theorem dd_L_law_1340 : decode code 1340 = .ok (.if_icmp .eq 137, 3) := by decide +kernel
theorem dd_L_law_1343 : decode code 1343 = .ok (.iconst 0, 1) := by decide +kernel
theorem dd_L_law_1344 : decode code 1344 = .ok (.ireturn, 1) := by decide +kernel
theorem dd_L_law_1345 : decode code 1345 = .ok (.aload_n 1, 1) := by decide +kernel
theorem dd_L_law_1346 : decode code 1346 = .ok (.aload_n 0, 1) := by decide +kernel
theorem dd_L_law_1347 : decode code 1347 = .ok (.iload_n 3, 1) := by decide +kernel
theorem dd_L_law_1348 : decode code 1348 = .ok (.iconst 1, 1) := by decide +kernel
theorem dd_L_law_1349 : decode code 1349 = .ok (.iadd, 1) := by decide +kernel
theorem dd_L_law_1350 : decode code 1350 = .ok (.iaload, 1) := by decide +kernel
theorem dd_L_law_1351 : decode code 1351 = .ok (.aload_n 0, 1) := by decide +kernel
theorem dd_L_law_1352 : decode code 1352 = .ok (.iload_n 3, 1) := by decide +kernel
theorem dd_L_law_1353 : decode code 1353 = .ok (.iconst 2, 1) := by decide +kernel
theorem dd_L_law_1354 : decode code 1354 = .ok (.iadd, 1) := by decide +kernel
theorem dd_L_law_1355 : decode code 1355 = .ok (.iaload, 1) := by decide +kernel
theorem dd_L_law_1356 : decode code 1356 = .ok (.aload_n 0, 1) := by decide +kernel
theorem dd_L_law_1357 : decode code 1357 = .ok (.iload_n 3, 1) := by decide +kernel
theorem dd_L_law_1358 : decode code 1358 = .ok (.iconst 3, 1) := by decide +kernel
theorem dd_L_law_1359 : decode code 1359 = .ok (.iadd, 1) := by decide +kernel
theorem dd_L_law_1360 : decode code 1360 = .ok (.iaload, 1) := by decide +kernel
theorem dd_L_law_1361 : decode code 1361 = .ok (.invokevirtual 166, 3) := by decide +kernel
theorem dd_L_law_1364 : decode code 1364 = .ok (.aload_n 2, 1) := by decide +kernel
theorem dd_L_law_1365 : decode code 1365 = .ok (.aload_n 0, 1) := by decide +kernel
theorem dd_L_law_1366 : decode code 1366 = .ok (.iload_n 3, 1) := by decide +kernel
theorem dd_L_law_1367 : decode code 1367 = .ok (.iconst 1, 1) := by decide +kernel
theorem dd_L_law_1368 : decode code 1368 = .ok (.iadd, 1) := by decide +kernel
theorem dd_L_law_1369 : decode code 1369 = .ok (.iaload, 1) := by decide +kernel
theorem dd_L_law_1370 : decode code 1370 = .ok (.aload_n 0, 1) := by decide +kernel
theorem dd_L_law_1371 : decode code 1371 = .ok (.iload_n 3, 1) := by decide +kernel
theorem dd_L_law_1372 : decode code 1372 = .ok (.iconst 2, 1) := by decide +kernel
theorem dd_L_law_1373 : decode code 1373 = .ok (.iadd, 1) := by decide +kernel
theorem dd_L_law_1374 : decode code 1374 = .ok (.iaload, 1) := by decide +kernel
theorem dd_L_law_1375 : decode code 1375 = .ok (.aload_n 0, 1) := by decide +kernel
theorem dd_L_law_1376 : decode code 1376 = .ok (.iload_n 3, 1) := by decide +kernel
theorem dd_L_law_1377 : decode code 1377 = .ok (.iconst 3, 1) := by decide +kernel
theorem dd_L_law_1378 : decode code 1378 = .ok (.iadd, 1) := by decide +kernel
theorem dd_L_law_1379 : decode code 1379 = .ok (.iaload, 1) := by decide +kernel
theorem dd_L_law_1380 : decode code 1380 = .ok (.invokevirtual 169, 3) := by decide +kernel
theorem dd_L_law_1383 : decode code 1383 = .ok (.if_icmp .eq 94, 3) := by decide +kernel
theorem dd_L_law_1386 : decode code 1386 = .ok (.iconst 0, 1) := by decide +kernel
theorem dd_L_law_1387 : decode code 1387 = .ok (.ireturn, 1) := by decide +kernel
theorem dd_L_law_1388 : decode code 1388 = .ok (.aload_n 1, 1) := by decide +kernel
theorem dd_L_law_1389 : decode code 1389 = .ok (.aload_n 0, 1) := by decide +kernel
theorem dd_L_law_1390 : decode code 1390 = .ok (.iload_n 3, 1) := by decide +kernel
theorem dd_L_law_1391 : decode code 1391 = .ok (.iconst 1, 1) := by decide +kernel
theorem dd_L_law_1392 : decode code 1392 = .ok (.iadd, 1) := by decide +kernel
theorem dd_L_law_1393 : decode code 1393 = .ok (.iaload, 1) := by decide +kernel
theorem dd_L_law_1394 : decode code 1394 = .ok (.aload_n 0, 1) := by decide +kernel
theorem dd_L_law_1395 : decode code 1395 = .ok (.iload_n 3, 1) := by decide +kernel
theorem dd_L_law_1396 : decode code 1396 = .ok (.iconst 2, 1) := by decide +kernel
theorem dd_L_law_1397 : decode code 1397 = .ok (.iadd, 1) := by decide +kernel
theorem dd_L_law_1398 : decode code 1398 = .ok (.iaload, 1) := by decide +kernel
theorem dd_L_law_1399 : decode code 1399 = .ok (.aload_n 0, 1) := by decide +kernel
theorem dd_L_law_1400 : decode code 1400 = .ok (.iload_n 3, 1) := by decide +kernel
theorem dd_L_law_1401 : decode code 1401 = .ok (.iconst 3, 1) := by decide +kernel
theorem dd_L_law_1402 : decode code 1402 = .ok (.iadd, 1) := by decide +kernel
theorem dd_L_law_1403 : decode code 1403 = .ok (.iaload, 1) := by decide +kernel
theorem dd_L_law_1404 : decode code 1404 = .ok (.aload_n 0, 1) := by decide +kernel
theorem dd_L_law_1405 : decode code 1405 = .ok (.iload_n 3, 1) := by decide +kernel
theorem dd_L_law_1406 : decode code 1406 = .ok (.iconst 4, 1) := by decide +kernel
theorem dd_L_law_1407 : decode code 1407 = .ok (.iadd, 1) := by decide +kernel
theorem dd_L_law_1408 : decode code 1408 = .ok (.iaload, 1) := by decide +kernel
theorem dd_L_law_1409 : decode code 1409 = .ok (.invokevirtual 170, 3) := by decide +kernel
theorem dd_L_law_1412 : decode code 1412 = .ok (.aload_n 2, 1) := by decide +kernel
theorem dd_L_law_1413 : decode code 1413 = .ok (.aload_n 0, 1) := by decide +kernel
theorem dd_L_law_1414 : decode code 1414 = .ok (.iload_n 3, 1) := by decide +kernel
theorem dd_L_law_1415 : decode code 1415 = .ok (.iconst 1, 1) := by decide +kernel
theorem dd_L_law_1416 : decode code 1416 = .ok (.iadd, 1) := by decide +kernel
theorem dd_L_law_1417 : decode code 1417 = .ok (.iaload, 1) := by decide +kernel
theorem dd_L_law_1418 : decode code 1418 = .ok (.aload_n 0, 1) := by decide +kernel
theorem dd_L_law_1419 : decode code 1419 = .ok (.iload_n 3, 1) := by decide +kernel
theorem dd_L_law_1420 : decode code 1420 = .ok (.iconst 2, 1) := by decide +kernel
theorem dd_L_law_1421 : decode code 1421 = .ok (.iadd, 1) := by decide +kernel
theorem dd_L_law_1422 : decode code 1422 = .ok (.iaload, 1) := by decide +kernel
theorem dd_L_law_1423 : decode code 1423 = .ok (.aload_n 0, 1) := by decide +kernel
theorem dd_L_law_1424 : decode code 1424 = .ok (.iload_n 3, 1) := by decide +kernel
theorem dd_L_law_1425 : decode code 1425 = .ok (.iconst 3, 1) := by decide +kernel
theorem dd_L_law_1426 : decode code 1426 = .ok (.iadd, 1) := by decide +kernel
theorem dd_L_law_1427 : decode code 1427 = .ok (.iaload, 1) := by decide +kernel
theorem dd_L_law_1428 : decode code 1428 = .ok (.aload_n 0, 1) := by decide +kernel
theorem dd_L_law_1429 : decode code 1429 = .ok (.iload_n 3, 1) := by decide +kernel
theorem dd_L_law_1430 : decode code 1430 = .ok (.iconst 4, 1) := by decide +kernel
theorem dd_L_law_1431 : decode code 1431 = .ok (.iadd, 1) := by decide +kernel
theorem dd_L_law_1432 : decode code 1432 = .ok (.iaload, 1) := by decide +kernel
theorem dd_L_law_1433 : decode code 1433 = .ok (.invokevirtual 174, 3) := by decide +kernel
theorem dd_L_law_1436 : decode code 1436 = .ok (.if_icmp .eq 41, 3) := by decide +kernel
theorem dd_L_law_1439 : decode code 1439 = .ok (.iconst 0, 1) := by decide +kernel
theorem dd_L_law_1440 : decode code 1440 = .ok (.ireturn, 1) := by decide +kernel
theorem dd_L_law_1441 : decode code 1441 = .ok (.aload_n 1, 1) := by decide +kernel
theorem dd_L_law_1442 : decode code 1442 = .ok (.invokevirtual 175, 3) := by decide +kernel
theorem dd_L_law_1445 : decode code 1445 = .ok (.aload_n 2, 1) := by decide +kernel
theorem dd_L_law_1446 : decode code 1446 = .ok (.invokevirtual 178, 3) := by decide +kernel
theorem dd_L_law_1449 : decode code 1449 = .ok (.if_icmp .eq 28, 3) := by decide +kernel
theorem dd_L_law_1452 : decode code 1452 = .ok (.iconst 0, 1) := by decide +kernel
theorem dd_L_law_1453 : decode code 1453 = .ok (.ireturn, 1) := by decide +kernel
theorem dd_L_law_1454 : decode code 1454 = .ok (.aload_n 1, 1) := by decide +kernel
theorem dd_L_law_1455 : decode code 1455 = .ok (.aload_n 0, 1) := by decide +kernel
theorem dd_L_law_1456 : decode code 1456 = .ok (.iload_n 3, 1) := by decide +kernel
theorem dd_L_law_1457 : decode code 1457 = .ok (.iconst 1, 1) := by decide +kernel
theorem dd_L_law_1458 : decode code 1458 = .ok (.iadd, 1) := by decide +kernel
theorem dd_L_law_1459 : decode code 1459 = .ok (.iaload, 1) := by decide +kernel
theorem dd_L_law_1460 : decode code 1460 = .ok (.invokevirtual 179, 3) := by decide +kernel
theorem dd_L_law_1463 : decode code 1463 = .ok (.aload_n 2, 1) := by decide +kernel
theorem dd_L_law_1464 : decode code 1464 = .ok (.aload_n 0, 1) := by decide +kernel
theorem dd_L_law_1465 : decode code 1465 = .ok (.iload_n 3, 1) := by decide +kernel
theorem dd_L_law_1466 : decode code 1466 = .ok (.iconst 1, 1) := by decide +kernel
theorem dd_L_law_1467 : decode code 1467 = .ok (.iadd, 1) := by decide +kernel
theorem dd_L_law_1468 : decode code 1468 = .ok (.iaload, 1) := by decide +kernel
theorem dd_L_law_1469 : decode code 1469 = .ok (.invokevirtual 182, 3) := by decide +kernel
theorem dd_L_law_1472 : decode code 1472 = .ok (.if_icmp .eq 5, 3) := by decide +kernel
theorem dd_L_law_1475 : decode code 1475 = .ok (.iconst 0, 1) := by decide +kernel
theorem dd_L_law_1476 : decode code 1476 = .ok (.ireturn, 1) := by decide +kernel
theorem dd_L_law_1477 : decode code 1477 = .ok (.iinc 3 5, 3) := by decide +kernel
theorem dd_L_law_1480 : decode code 1480 = .ok (.goto (-1462), 3) := by decide +kernel
theorem dd_L_law_1483 : decode code 1483 = .ok (.iconst 1, 1) := by decide +kernel
theorem dd_L_law_1484 : decode code 1484 = .ok (.ireturn, 1) := by decide +kernel
