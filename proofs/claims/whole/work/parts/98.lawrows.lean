/-! the law: its instructions, its links -/
theorem dL_18 : decode code 18 = .ok (.iload_n 3, 1) := by decide +kernel
theorem dL_19 : decode code 19 = .ok (.aload_n 0, 1) := by decide +kernel
theorem dL_20 : decode code 20 = .ok (.arraylength, 1) := by decide +kernel
theorem dL_21 : decode code 21 = .ok (.bipush 6, 2) := by decide +kernel
theorem dL_23 : decode code 23 = .ok (.isub, 1) := by decide +kernel
theorem dL_24 : decode code 24 = .ok (.if_icmp .gt 1426, 3) := by decide +kernel
theorem dL_27 : decode code 27 = .ok (.aload_n 0, 1) := by decide +kernel
theorem dL_28 : decode code 28 = .ok (.iload_n 3, 1) := by decide +kernel
theorem dL_29 : decode code 29 = .ok (.iaload, 1) := by decide +kernel
theorem dL_30 : decode code 30 = .ok (.bipush 63, 2) := by decide +kernel
theorem dL_32 : decode code 32 = .ok (.iand, 1) := by decide +kernel
theorem dL_33 : decode code 33 = .ok (.tableswitch 1411 0 39 #[175, 198, 221, 254, 307, 330, 353, 386, 409, 432, 465, 498, 531, 574, 597, 630, 663, 696, 740, 773, 806, 829, 873, 896, 930, 974, 1007, 1031, 1054, 1067, 1080, 1093, 1116, 1159, 1182, 1235, 1278, 1341, 1374, 1397], 175) := by decide +kernel
theorem dL_208 : decode code 208 = .ok (.aload_n 1, 1) := by decide +kernel
theorem dL_209 : decode code 209 = .ok (.aload_n 0, 1) := by decide +kernel
theorem dL_210 : decode code 210 = .ok (.iload_n 3, 1) := by decide +kernel
theorem dL_211 : decode code 211 = .ok (.iconst 1, 1) := by decide +kernel
theorem dL_212 : decode code 212 = .ok (.iadd, 1) := by decide +kernel
theorem dL_213 : decode code 213 = .ok (.iaload, 1) := by decide +kernel
theorem dL_214 : decode code 214 = .ok (.invokevirtual 13, 3) := by decide +kernel
theorem dL_217 : decode code 217 = .ok (.aload_n 2, 1) := by decide +kernel
theorem dL_218 : decode code 218 = .ok (.aload_n 0, 1) := by decide +kernel
theorem dL_219 : decode code 219 = .ok (.iload_n 3, 1) := by decide +kernel
theorem dL_220 : decode code 220 = .ok (.iconst 1, 1) := by decide +kernel
theorem dL_221 : decode code 221 = .ok (.iadd, 1) := by decide +kernel
theorem dL_222 : decode code 222 = .ok (.iaload, 1) := by decide +kernel
theorem dL_223 : decode code 223 = .ok (.invokevirtual 17, 3) := by decide +kernel
theorem dL_226 : decode code 226 = .ok (.if_icmp .eq 1218, 3) := by decide +kernel
theorem dL_229 : decode code 229 = .ok (.iconst 0, 1) := by decide +kernel
theorem dL_230 : decode code 230 = .ok (.ireturn, 1) := by decide +kernel
theorem dL_231 : decode code 231 = .ok (.aload_n 1, 1) := by decide +kernel
theorem dL_232 : decode code 232 = .ok (.aload_n 0, 1) := by decide +kernel
theorem dL_233 : decode code 233 = .ok (.iload_n 3, 1) := by decide +kernel
theorem dL_234 : decode code 234 = .ok (.iconst 1, 1) := by decide +kernel
theorem dL_235 : decode code 235 = .ok (.iadd, 1) := by decide +kernel
theorem dL_236 : decode code 236 = .ok (.iaload, 1) := by decide +kernel
theorem dL_237 : decode code 237 = .ok (.invokevirtual 18, 3) := by decide +kernel
theorem dL_240 : decode code 240 = .ok (.aload_n 2, 1) := by decide +kernel
theorem dL_241 : decode code 241 = .ok (.aload_n 0, 1) := by decide +kernel
theorem dL_242 : decode code 242 = .ok (.iload_n 3, 1) := by decide +kernel
theorem dL_243 : decode code 243 = .ok (.iconst 1, 1) := by decide +kernel
theorem dL_244 : decode code 244 = .ok (.iadd, 1) := by decide +kernel
theorem dL_245 : decode code 245 = .ok (.iaload, 1) := by decide +kernel
theorem dL_246 : decode code 246 = .ok (.invokevirtual 21, 3) := by decide +kernel
theorem dL_249 : decode code 249 = .ok (.if_icmp .eq 1195, 3) := by decide +kernel
theorem dL_252 : decode code 252 = .ok (.iconst 0, 1) := by decide +kernel
theorem dL_253 : decode code 253 = .ok (.ireturn, 1) := by decide +kernel
theorem dL_254 : decode code 254 = .ok (.aload_n 1, 1) := by decide +kernel
theorem dL_255 : decode code 255 = .ok (.aload_n 0, 1) := by decide +kernel
theorem dL_256 : decode code 256 = .ok (.iload_n 3, 1) := by decide +kernel
theorem dL_257 : decode code 257 = .ok (.iconst 1, 1) := by decide +kernel
theorem dL_258 : decode code 258 = .ok (.iadd, 1) := by decide +kernel
theorem dL_259 : decode code 259 = .ok (.iaload, 1) := by decide +kernel
theorem dL_260 : decode code 260 = .ok (.aload_n 0, 1) := by decide +kernel
theorem dL_261 : decode code 261 = .ok (.iload_n 3, 1) := by decide +kernel
theorem dL_262 : decode code 262 = .ok (.iconst 2, 1) := by decide +kernel
theorem dL_263 : decode code 263 = .ok (.iadd, 1) := by decide +kernel
theorem dL_264 : decode code 264 = .ok (.iaload, 1) := by decide +kernel
theorem dL_265 : decode code 265 = .ok (.invokevirtual 22, 3) := by decide +kernel
theorem dL_268 : decode code 268 = .ok (.aload_n 2, 1) := by decide +kernel
theorem dL_269 : decode code 269 = .ok (.aload_n 0, 1) := by decide +kernel
theorem dL_270 : decode code 270 = .ok (.iload_n 3, 1) := by decide +kernel
theorem dL_271 : decode code 271 = .ok (.iconst 1, 1) := by decide +kernel
theorem dL_272 : decode code 272 = .ok (.iadd, 1) := by decide +kernel
theorem dL_273 : decode code 273 = .ok (.iaload, 1) := by decide +kernel
theorem dL_274 : decode code 274 = .ok (.aload_n 0, 1) := by decide +kernel
theorem dL_275 : decode code 275 = .ok (.iload_n 3, 1) := by decide +kernel
theorem dL_276 : decode code 276 = .ok (.iconst 2, 1) := by decide +kernel
theorem dL_277 : decode code 277 = .ok (.iadd, 1) := by decide +kernel
theorem dL_278 : decode code 278 = .ok (.iaload, 1) := by decide +kernel
theorem dL_279 : decode code 279 = .ok (.invokevirtual 26, 3) := by decide +kernel
theorem dL_282 : decode code 282 = .ok (.if_icmp .eq 1162, 3) := by decide +kernel
theorem dL_285 : decode code 285 = .ok (.iconst 0, 1) := by decide +kernel
theorem dL_286 : decode code 286 = .ok (.ireturn, 1) := by decide +kernel
theorem dL_287 : decode code 287 = .ok (.aload_n 1, 1) := by decide +kernel
theorem dL_288 : decode code 288 = .ok (.aload_n 0, 1) := by decide +kernel
theorem dL_289 : decode code 289 = .ok (.iload_n 3, 1) := by decide +kernel
theorem dL_290 : decode code 290 = .ok (.iconst 1, 1) := by decide +kernel
theorem dL_291 : decode code 291 = .ok (.iadd, 1) := by decide +kernel
theorem dL_292 : decode code 292 = .ok (.iaload, 1) := by decide +kernel
theorem dL_293 : decode code 293 = .ok (.aload_n 0, 1) := by decide +kernel
theorem dL_294 : decode code 294 = .ok (.iload_n 3, 1) := by decide +kernel
theorem dL_295 : decode code 295 = .ok (.iconst 2, 1) := by decide +kernel
theorem dL_296 : decode code 296 = .ok (.iadd, 1) := by decide +kernel
theorem dL_297 : decode code 297 = .ok (.iaload, 1) := by decide +kernel
theorem dL_298 : decode code 298 = .ok (.aload_n 0, 1) := by decide +kernel
theorem dL_299 : decode code 299 = .ok (.iload_n 3, 1) := by decide +kernel
theorem dL_300 : decode code 300 = .ok (.iconst 3, 1) := by decide +kernel
theorem dL_301 : decode code 301 = .ok (.iadd, 1) := by decide +kernel
theorem dL_302 : decode code 302 = .ok (.iaload, 1) := by decide +kernel
theorem dL_303 : decode code 303 = .ok (.aload_n 0, 1) := by decide +kernel
theorem dL_304 : decode code 304 = .ok (.iload_n 3, 1) := by decide +kernel
theorem dL_305 : decode code 305 = .ok (.iconst 4, 1) := by decide +kernel
theorem dL_306 : decode code 306 = .ok (.iadd, 1) := by decide +kernel
theorem dL_307 : decode code 307 = .ok (.iaload, 1) := by decide +kernel
theorem dL_308 : decode code 308 = .ok (.invokevirtual 27, 3) := by decide +kernel
theorem dL_311 : decode code 311 = .ok (.aload_n 2, 1) := by decide +kernel
theorem dL_312 : decode code 312 = .ok (.aload_n 0, 1) := by decide +kernel
theorem dL_313 : decode code 313 = .ok (.iload_n 3, 1) := by decide +kernel
theorem dL_314 : decode code 314 = .ok (.iconst 1, 1) := by decide +kernel
theorem dL_315 : decode code 315 = .ok (.iadd, 1) := by decide +kernel
theorem dL_316 : decode code 316 = .ok (.iaload, 1) := by decide +kernel
theorem dL_317 : decode code 317 = .ok (.aload_n 0, 1) := by decide +kernel
theorem dL_318 : decode code 318 = .ok (.iload_n 3, 1) := by decide +kernel
theorem dL_319 : decode code 319 = .ok (.iconst 2, 1) := by decide +kernel
theorem dL_320 : decode code 320 = .ok (.iadd, 1) := by decide +kernel
theorem dL_321 : decode code 321 = .ok (.iaload, 1) := by decide +kernel
theorem dL_322 : decode code 322 = .ok (.aload_n 0, 1) := by decide +kernel
theorem dL_323 : decode code 323 = .ok (.iload_n 3, 1) := by decide +kernel
theorem dL_324 : decode code 324 = .ok (.iconst 3, 1) := by decide +kernel
theorem dL_325 : decode code 325 = .ok (.iadd, 1) := by decide +kernel
theorem dL_326 : decode code 326 = .ok (.iaload, 1) := by decide +kernel
theorem dL_327 : decode code 327 = .ok (.aload_n 0, 1) := by decide +kernel
theorem dL_328 : decode code 328 = .ok (.iload_n 3, 1) := by decide +kernel
theorem dL_329 : decode code 329 = .ok (.iconst 4, 1) := by decide +kernel
theorem dL_330 : decode code 330 = .ok (.iadd, 1) := by decide +kernel
theorem dL_331 : decode code 331 = .ok (.iaload, 1) := by decide +kernel
theorem dL_332 : decode code 332 = .ok (.invokevirtual 31, 3) := by decide +kernel
theorem dL_335 : decode code 335 = .ok (.if_icmp .eq 1109, 3) := by decide +kernel
theorem dL_338 : decode code 338 = .ok (.iconst 0, 1) := by decide +kernel
theorem dL_339 : decode code 339 = .ok (.ireturn, 1) := by decide +kernel
theorem dL_340 : decode code 340 = .ok (.aload_n 1, 1) := by decide +kernel
theorem dL_341 : decode code 341 = .ok (.aload_n 0, 1) := by decide +kernel
theorem dL_342 : decode code 342 = .ok (.iload_n 3, 1) := by decide +kernel
theorem dL_343 : decode code 343 = .ok (.iconst 1, 1) := by decide +kernel
theorem dL_344 : decode code 344 = .ok (.iadd, 1) := by decide +kernel
theorem dL_345 : decode code 345 = .ok (.iaload, 1) := by decide +kernel
theorem dL_346 : decode code 346 = .ok (.invokevirtual 32, 3) := by decide +kernel
theorem dL_349 : decode code 349 = .ok (.aload_n 2, 1) := by decide +kernel
theorem dL_350 : decode code 350 = .ok (.aload_n 0, 1) := by decide +kernel
theorem dL_351 : decode code 351 = .ok (.iload_n 3, 1) := by decide +kernel
theorem dL_352 : decode code 352 = .ok (.iconst 1, 1) := by decide +kernel
theorem dL_353 : decode code 353 = .ok (.iadd, 1) := by decide +kernel
theorem dL_354 : decode code 354 = .ok (.iaload, 1) := by decide +kernel
theorem dL_355 : decode code 355 = .ok (.invokevirtual 35, 3) := by decide +kernel
theorem dL_358 : decode code 358 = .ok (.if_icmp .eq 1086, 3) := by decide +kernel
theorem dL_361 : decode code 361 = .ok (.iconst 0, 1) := by decide +kernel
theorem dL_362 : decode code 362 = .ok (.ireturn, 1) := by decide +kernel
theorem dL_363 : decode code 363 = .ok (.aload_n 1, 1) := by decide +kernel
theorem dL_364 : decode code 364 = .ok (.aload_n 0, 1) := by decide +kernel
theorem dL_365 : decode code 365 = .ok (.iload_n 3, 1) := by decide +kernel
theorem dL_366 : decode code 366 = .ok (.iconst 1, 1) := by decide +kernel
theorem dL_367 : decode code 367 = .ok (.iadd, 1) := by decide +kernel
theorem dL_368 : decode code 368 = .ok (.iaload, 1) := by decide +kernel
theorem dL_369 : decode code 369 = .ok (.invokevirtual 36, 3) := by decide +kernel
theorem dL_372 : decode code 372 = .ok (.aload_n 2, 1) := by decide +kernel
theorem dL_373 : decode code 373 = .ok (.aload_n 0, 1) := by decide +kernel
theorem dL_374 : decode code 374 = .ok (.iload_n 3, 1) := by decide +kernel
theorem dL_375 : decode code 375 = .ok (.iconst 1, 1) := by decide +kernel
theorem dL_376 : decode code 376 = .ok (.iadd, 1) := by decide +kernel
theorem dL_377 : decode code 377 = .ok (.iaload, 1) := by decide +kernel
theorem dL_378 : decode code 378 = .ok (.invokevirtual 39, 3) := by decide +kernel
theorem dL_381 : decode code 381 = .ok (.if_icmp .eq 1063, 3) := by decide +kernel
theorem dL_384 : decode code 384 = .ok (.iconst 0, 1) := by decide +kernel
theorem dL_385 : decode code 385 = .ok (.ireturn, 1) := by decide +kernel
theorem dL_386 : decode code 386 = .ok (.aload_n 1, 1) := by decide +kernel
theorem dL_387 : decode code 387 = .ok (.aload_n 0, 1) := by decide +kernel
theorem dL_388 : decode code 388 = .ok (.iload_n 3, 1) := by decide +kernel
theorem dL_389 : decode code 389 = .ok (.iconst 1, 1) := by decide +kernel
theorem dL_390 : decode code 390 = .ok (.iadd, 1) := by decide +kernel
theorem dL_391 : decode code 391 = .ok (.iaload, 1) := by decide +kernel
theorem dL_392 : decode code 392 = .ok (.aload_n 0, 1) := by decide +kernel
theorem dL_393 : decode code 393 = .ok (.iload_n 3, 1) := by decide +kernel
theorem dL_394 : decode code 394 = .ok (.iconst 2, 1) := by decide +kernel
theorem dL_395 : decode code 395 = .ok (.iadd, 1) := by decide +kernel
theorem dL_396 : decode code 396 = .ok (.iaload, 1) := by decide +kernel
theorem dL_397 : decode code 397 = .ok (.invokevirtual 40, 3) := by decide +kernel
theorem dL_400 : decode code 400 = .ok (.aload_n 2, 1) := by decide +kernel
theorem dL_401 : decode code 401 = .ok (.aload_n 0, 1) := by decide +kernel
theorem dL_402 : decode code 402 = .ok (.iload_n 3, 1) := by decide +kernel
theorem dL_403 : decode code 403 = .ok (.iconst 1, 1) := by decide +kernel
theorem dL_404 : decode code 404 = .ok (.iadd, 1) := by decide +kernel
theorem dL_405 : decode code 405 = .ok (.iaload, 1) := by decide +kernel
theorem dL_406 : decode code 406 = .ok (.aload_n 0, 1) := by decide +kernel
theorem dL_407 : decode code 407 = .ok (.iload_n 3, 1) := by decide +kernel
theorem dL_408 : decode code 408 = .ok (.iconst 2, 1) := by decide +kernel
theorem dL_409 : decode code 409 = .ok (.iadd, 1) := by decide +kernel
theorem dL_410 : decode code 410 = .ok (.iaload, 1) := by decide +kernel
theorem dL_411 : decode code 411 = .ok (.invokevirtual 43, 3) := by decide +kernel
theorem dL_414 : decode code 414 = .ok (.if_icmp .eq 1030, 3) := by decide +kernel
theorem dL_417 : decode code 417 = .ok (.iconst 0, 1) := by decide +kernel
theorem dL_418 : decode code 418 = .ok (.ireturn, 1) := by decide +kernel
theorem dL_419 : decode code 419 = .ok (.aload_n 1, 1) := by decide +kernel
theorem dL_420 : decode code 420 = .ok (.aload_n 0, 1) := by decide +kernel
theorem dL_421 : decode code 421 = .ok (.iload_n 3, 1) := by decide +kernel
theorem dL_422 : decode code 422 = .ok (.iconst 1, 1) := by decide +kernel
theorem dL_423 : decode code 423 = .ok (.iadd, 1) := by decide +kernel
theorem dL_424 : decode code 424 = .ok (.iaload, 1) := by decide +kernel
theorem dL_425 : decode code 425 = .ok (.invokevirtual 44, 3) := by decide +kernel
theorem dL_428 : decode code 428 = .ok (.aload_n 2, 1) := by decide +kernel
theorem dL_429 : decode code 429 = .ok (.aload_n 0, 1) := by decide +kernel
theorem dL_430 : decode code 430 = .ok (.iload_n 3, 1) := by decide +kernel
theorem dL_431 : decode code 431 = .ok (.iconst 1, 1) := by decide +kernel
theorem dL_432 : decode code 432 = .ok (.iadd, 1) := by decide +kernel
theorem dL_433 : decode code 433 = .ok (.iaload, 1) := by decide +kernel
theorem dL_434 : decode code 434 = .ok (.invokevirtual 47, 3) := by decide +kernel
theorem dL_437 : decode code 437 = .ok (.if_icmp .eq 1007, 3) := by decide +kernel
theorem dL_440 : decode code 440 = .ok (.iconst 0, 1) := by decide +kernel
theorem dL_441 : decode code 441 = .ok (.ireturn, 1) := by decide +kernel
theorem dL_442 : decode code 442 = .ok (.aload_n 1, 1) := by decide +kernel
theorem dL_443 : decode code 443 = .ok (.aload_n 0, 1) := by decide +kernel
theorem dL_444 : decode code 444 = .ok (.iload_n 3, 1) := by decide +kernel
theorem dL_445 : decode code 445 = .ok (.iconst 1, 1) := by decide +kernel
theorem dL_446 : decode code 446 = .ok (.iadd, 1) := by decide +kernel
theorem dL_447 : decode code 447 = .ok (.iaload, 1) := by decide +kernel
theorem dL_448 : decode code 448 = .ok (.invokevirtual 48, 3) := by decide +kernel
theorem dL_451 : decode code 451 = .ok (.aload_n 2, 1) := by decide +kernel
theorem dL_452 : decode code 452 = .ok (.aload_n 0, 1) := by decide +kernel
theorem dL_453 : decode code 453 = .ok (.iload_n 3, 1) := by decide +kernel
theorem dL_454 : decode code 454 = .ok (.iconst 1, 1) := by decide +kernel
theorem dL_455 : decode code 455 = .ok (.iadd, 1) := by decide +kernel
theorem dL_456 : decode code 456 = .ok (.iaload, 1) := by decide +kernel
theorem dL_457 : decode code 457 = .ok (.invokevirtual 51, 3) := by decide +kernel
theorem dL_460 : decode code 460 = .ok (.if_icmp .eq 984, 3) := by decide +kernel
theorem dL_463 : decode code 463 = .ok (.iconst 0, 1) := by decide +kernel
theorem dL_464 : decode code 464 = .ok (.ireturn, 1) := by decide +kernel
theorem dL_465 : decode code 465 = .ok (.aload_n 1, 1) := by decide +kernel
theorem dL_466 : decode code 466 = .ok (.aload_n 0, 1) := by decide +kernel
theorem dL_467 : decode code 467 = .ok (.iload_n 3, 1) := by decide +kernel
theorem dL_468 : decode code 468 = .ok (.iconst 1, 1) := by decide +kernel
theorem dL_469 : decode code 469 = .ok (.iadd, 1) := by decide +kernel
theorem dL_470 : decode code 470 = .ok (.iaload, 1) := by decide +kernel
theorem dL_471 : decode code 471 = .ok (.aload_n 0, 1) := by decide +kernel
theorem dL_472 : decode code 472 = .ok (.iload_n 3, 1) := by decide +kernel
theorem dL_473 : decode code 473 = .ok (.iconst 2, 1) := by decide +kernel
theorem dL_474 : decode code 474 = .ok (.iadd, 1) := by decide +kernel
theorem dL_475 : decode code 475 = .ok (.iaload, 1) := by decide +kernel
theorem dL_476 : decode code 476 = .ok (.invokevirtual 52, 3) := by decide +kernel
theorem dL_479 : decode code 479 = .ok (.aload_n 2, 1) := by decide +kernel
theorem dL_480 : decode code 480 = .ok (.aload_n 0, 1) := by decide +kernel
theorem dL_481 : decode code 481 = .ok (.iload_n 3, 1) := by decide +kernel
theorem dL_482 : decode code 482 = .ok (.iconst 1, 1) := by decide +kernel
theorem dL_483 : decode code 483 = .ok (.iadd, 1) := by decide +kernel
theorem dL_484 : decode code 484 = .ok (.iaload, 1) := by decide +kernel
theorem dL_485 : decode code 485 = .ok (.aload_n 0, 1) := by decide +kernel
theorem dL_486 : decode code 486 = .ok (.iload_n 3, 1) := by decide +kernel
theorem dL_487 : decode code 487 = .ok (.iconst 2, 1) := by decide +kernel
theorem dL_488 : decode code 488 = .ok (.iadd, 1) := by decide +kernel
theorem dL_489 : decode code 489 = .ok (.iaload, 1) := by decide +kernel
theorem dL_490 : decode code 490 = .ok (.invokevirtual 55, 3) := by decide +kernel
theorem dL_493 : decode code 493 = .ok (.if_icmp .eq 951, 3) := by decide +kernel
theorem dL_496 : decode code 496 = .ok (.iconst 0, 1) := by decide +kernel
theorem dL_497 : decode code 497 = .ok (.ireturn, 1) := by decide +kernel
theorem dL_498 : decode code 498 = .ok (.aload_n 1, 1) := by decide +kernel
theorem dL_499 : decode code 499 = .ok (.aload_n 0, 1) := by decide +kernel
theorem dL_500 : decode code 500 = .ok (.iload_n 3, 1) := by decide +kernel
theorem dL_501 : decode code 501 = .ok (.iconst 1, 1) := by decide +kernel
theorem dL_502 : decode code 502 = .ok (.iadd, 1) := by decide +kernel
theorem dL_503 : decode code 503 = .ok (.iaload, 1) := by decide +kernel
theorem dL_504 : decode code 504 = .ok (.aload_n 0, 1) := by decide +kernel
theorem dL_505 : decode code 505 = .ok (.iload_n 3, 1) := by decide +kernel
theorem dL_506 : decode code 506 = .ok (.iconst 2, 1) := by decide +kernel
theorem dL_507 : decode code 507 = .ok (.iadd, 1) := by decide +kernel
theorem dL_508 : decode code 508 = .ok (.iaload, 1) := by decide +kernel
theorem dL_509 : decode code 509 = .ok (.invokevirtual 56, 3) := by decide +kernel
theorem dL_512 : decode code 512 = .ok (.aload_n 2, 1) := by decide +kernel
theorem dL_513 : decode code 513 = .ok (.aload_n 0, 1) := by decide +kernel
theorem dL_514 : decode code 514 = .ok (.iload_n 3, 1) := by decide +kernel
theorem dL_515 : decode code 515 = .ok (.iconst 1, 1) := by decide +kernel
theorem dL_516 : decode code 516 = .ok (.iadd, 1) := by decide +kernel
theorem dL_517 : decode code 517 = .ok (.iaload, 1) := by decide +kernel
theorem dL_518 : decode code 518 = .ok (.aload_n 0, 1) := by decide +kernel
theorem dL_519 : decode code 519 = .ok (.iload_n 3, 1) := by decide +kernel
theorem dL_520 : decode code 520 = .ok (.iconst 2, 1) := by decide +kernel
theorem dL_521 : decode code 521 = .ok (.iadd, 1) := by decide +kernel
theorem dL_522 : decode code 522 = .ok (.iaload, 1) := by decide +kernel
theorem dL_523 : decode code 523 = .ok (.invokevirtual 59, 3) := by decide +kernel
theorem dL_526 : decode code 526 = .ok (.if_icmp .eq 918, 3) := by decide +kernel
theorem dL_529 : decode code 529 = .ok (.iconst 0, 1) := by decide +kernel
theorem dL_530 : decode code 530 = .ok (.ireturn, 1) := by decide +kernel
theorem dL_531 : decode code 531 = .ok (.aload_n 1, 1) := by decide +kernel
theorem dL_532 : decode code 532 = .ok (.aload_n 0, 1) := by decide +kernel
theorem dL_533 : decode code 533 = .ok (.iload_n 3, 1) := by decide +kernel
theorem dL_534 : decode code 534 = .ok (.iconst 1, 1) := by decide +kernel
theorem dL_535 : decode code 535 = .ok (.iadd, 1) := by decide +kernel
theorem dL_536 : decode code 536 = .ok (.iaload, 1) := by decide +kernel
theorem dL_537 : decode code 537 = .ok (.aload_n 0, 1) := by decide +kernel
theorem dL_538 : decode code 538 = .ok (.iload_n 3, 1) := by decide +kernel
theorem dL_539 : decode code 539 = .ok (.iconst 2, 1) := by decide +kernel
theorem dL_540 : decode code 540 = .ok (.iadd, 1) := by decide +kernel
theorem dL_541 : decode code 541 = .ok (.iaload, 1) := by decide +kernel
theorem dL_542 : decode code 542 = .ok (.invokevirtual 60, 3) := by decide +kernel
theorem dL_545 : decode code 545 = .ok (.aload_n 2, 1) := by decide +kernel
theorem dL_546 : decode code 546 = .ok (.aload_n 0, 1) := by decide +kernel
theorem dL_547 : decode code 547 = .ok (.iload_n 3, 1) := by decide +kernel
theorem dL_548 : decode code 548 = .ok (.iconst 1, 1) := by decide +kernel
theorem dL_549 : decode code 549 = .ok (.iadd, 1) := by decide +kernel
theorem dL_550 : decode code 550 = .ok (.iaload, 1) := by decide +kernel
theorem dL_551 : decode code 551 = .ok (.aload_n 0, 1) := by decide +kernel
theorem dL_552 : decode code 552 = .ok (.iload_n 3, 1) := by decide +kernel
theorem dL_553 : decode code 553 = .ok (.iconst 2, 1) := by decide +kernel
theorem dL_554 : decode code 554 = .ok (.iadd, 1) := by decide +kernel
theorem dL_555 : decode code 555 = .ok (.iaload, 1) := by decide +kernel
theorem dL_556 : decode code 556 = .ok (.invokevirtual 63, 3) := by decide +kernel
theorem dL_559 : decode code 559 = .ok (.if_icmp .eq 885, 3) := by decide +kernel
theorem dL_562 : decode code 562 = .ok (.iconst 0, 1) := by decide +kernel
theorem dL_563 : decode code 563 = .ok (.ireturn, 1) := by decide +kernel
theorem dL_564 : decode code 564 = .ok (.aload_n 1, 1) := by decide +kernel
theorem dL_565 : decode code 565 = .ok (.aload_n 0, 1) := by decide +kernel
theorem dL_566 : decode code 566 = .ok (.iload_n 3, 1) := by decide +kernel
theorem dL_567 : decode code 567 = .ok (.iconst 1, 1) := by decide +kernel
theorem dL_568 : decode code 568 = .ok (.iadd, 1) := by decide +kernel
theorem dL_569 : decode code 569 = .ok (.iaload, 1) := by decide +kernel
theorem dL_570 : decode code 570 = .ok (.aload_n 0, 1) := by decide +kernel
theorem dL_571 : decode code 571 = .ok (.iload_n 3, 1) := by decide +kernel
theorem dL_572 : decode code 572 = .ok (.iconst 2, 1) := by decide +kernel
theorem dL_573 : decode code 573 = .ok (.iadd, 1) := by decide +kernel
theorem dL_574 : decode code 574 = .ok (.iaload, 1) := by decide +kernel
theorem dL_575 : decode code 575 = .ok (.aload_n 0, 1) := by decide +kernel
theorem dL_576 : decode code 576 = .ok (.iload_n 3, 1) := by decide +kernel
theorem dL_577 : decode code 577 = .ok (.iconst 3, 1) := by decide +kernel
theorem dL_578 : decode code 578 = .ok (.iadd, 1) := by decide +kernel
theorem dL_579 : decode code 579 = .ok (.iaload, 1) := by decide +kernel
theorem dL_580 : decode code 580 = .ok (.invokevirtual 64, 3) := by decide +kernel
theorem dL_583 : decode code 583 = .ok (.aload_n 2, 1) := by decide +kernel
theorem dL_584 : decode code 584 = .ok (.aload_n 0, 1) := by decide +kernel
theorem dL_585 : decode code 585 = .ok (.iload_n 3, 1) := by decide +kernel
theorem dL_586 : decode code 586 = .ok (.iconst 1, 1) := by decide +kernel
theorem dL_587 : decode code 587 = .ok (.iadd, 1) := by decide +kernel
theorem dL_588 : decode code 588 = .ok (.iaload, 1) := by decide +kernel
theorem dL_589 : decode code 589 = .ok (.aload_n 0, 1) := by decide +kernel
theorem dL_590 : decode code 590 = .ok (.iload_n 3, 1) := by decide +kernel
theorem dL_591 : decode code 591 = .ok (.iconst 2, 1) := by decide +kernel
theorem dL_592 : decode code 592 = .ok (.iadd, 1) := by decide +kernel
theorem dL_593 : decode code 593 = .ok (.iaload, 1) := by decide +kernel
theorem dL_594 : decode code 594 = .ok (.aload_n 0, 1) := by decide +kernel
theorem dL_595 : decode code 595 = .ok (.iload_n 3, 1) := by decide +kernel
theorem dL_596 : decode code 596 = .ok (.iconst 3, 1) := by decide +kernel
theorem dL_597 : decode code 597 = .ok (.iadd, 1) := by decide +kernel
theorem dL_598 : decode code 598 = .ok (.iaload, 1) := by decide +kernel
theorem dL_599 : decode code 599 = .ok (.invokevirtual 68, 3) := by decide +kernel
theorem dL_602 : decode code 602 = .ok (.if_icmp .eq 842, 3) := by decide +kernel
theorem dL_605 : decode code 605 = .ok (.iconst 0, 1) := by decide +kernel
theorem dL_606 : decode code 606 = .ok (.ireturn, 1) := by decide +kernel
theorem dL_607 : decode code 607 = .ok (.aload_n 1, 1) := by decide +kernel
theorem dL_608 : decode code 608 = .ok (.aload_n 0, 1) := by decide +kernel
theorem dL_609 : decode code 609 = .ok (.iload_n 3, 1) := by decide +kernel
theorem dL_610 : decode code 610 = .ok (.iconst 1, 1) := by decide +kernel
theorem dL_611 : decode code 611 = .ok (.iadd, 1) := by decide +kernel
theorem dL_612 : decode code 612 = .ok (.iaload, 1) := by decide +kernel
theorem dL_613 : decode code 613 = .ok (.invokevirtual 69, 3) := by decide +kernel
theorem dL_616 : decode code 616 = .ok (.aload_n 2, 1) := by decide +kernel
theorem dL_617 : decode code 617 = .ok (.aload_n 0, 1) := by decide +kernel
theorem dL_618 : decode code 618 = .ok (.iload_n 3, 1) := by decide +kernel
theorem dL_619 : decode code 619 = .ok (.iconst 1, 1) := by decide +kernel
theorem dL_620 : decode code 620 = .ok (.iadd, 1) := by decide +kernel
theorem dL_621 : decode code 621 = .ok (.iaload, 1) := by decide +kernel
theorem dL_622 : decode code 622 = .ok (.invokevirtual 72, 3) := by decide +kernel
theorem dL_625 : decode code 625 = .ok (.if_icmp .eq 819, 3) := by decide +kernel
theorem dL_628 : decode code 628 = .ok (.iconst 0, 1) := by decide +kernel
theorem dL_629 : decode code 629 = .ok (.ireturn, 1) := by decide +kernel
theorem dL_630 : decode code 630 = .ok (.aload_n 1, 1) := by decide +kernel
theorem dL_631 : decode code 631 = .ok (.aload_n 0, 1) := by decide +kernel
theorem dL_632 : decode code 632 = .ok (.iload_n 3, 1) := by decide +kernel
theorem dL_633 : decode code 633 = .ok (.iconst 1, 1) := by decide +kernel
theorem dL_634 : decode code 634 = .ok (.iadd, 1) := by decide +kernel
theorem dL_635 : decode code 635 = .ok (.iaload, 1) := by decide +kernel
theorem dL_636 : decode code 636 = .ok (.aload_n 0, 1) := by decide +kernel
theorem dL_637 : decode code 637 = .ok (.iload_n 3, 1) := by decide +kernel
theorem dL_638 : decode code 638 = .ok (.iconst 2, 1) := by decide +kernel
theorem dL_639 : decode code 639 = .ok (.iadd, 1) := by decide +kernel
theorem dL_640 : decode code 640 = .ok (.iaload, 1) := by decide +kernel
theorem dL_641 : decode code 641 = .ok (.invokevirtual 73, 3) := by decide +kernel
theorem dL_644 : decode code 644 = .ok (.aload_n 2, 1) := by decide +kernel
theorem dL_645 : decode code 645 = .ok (.aload_n 0, 1) := by decide +kernel
theorem dL_646 : decode code 646 = .ok (.iload_n 3, 1) := by decide +kernel
theorem dL_647 : decode code 647 = .ok (.iconst 1, 1) := by decide +kernel
theorem dL_648 : decode code 648 = .ok (.iadd, 1) := by decide +kernel
theorem dL_649 : decode code 649 = .ok (.iaload, 1) := by decide +kernel
theorem dL_650 : decode code 650 = .ok (.aload_n 0, 1) := by decide +kernel
theorem dL_651 : decode code 651 = .ok (.iload_n 3, 1) := by decide +kernel
theorem dL_652 : decode code 652 = .ok (.iconst 2, 1) := by decide +kernel
theorem dL_653 : decode code 653 = .ok (.iadd, 1) := by decide +kernel
theorem dL_654 : decode code 654 = .ok (.iaload, 1) := by decide +kernel
theorem dL_655 : decode code 655 = .ok (.invokevirtual 76, 3) := by decide +kernel
theorem dL_658 : decode code 658 = .ok (.if_icmp .eq 786, 3) := by decide +kernel
theorem dL_661 : decode code 661 = .ok (.iconst 0, 1) := by decide +kernel
theorem dL_662 : decode code 662 = .ok (.ireturn, 1) := by decide +kernel
theorem dL_663 : decode code 663 = .ok (.aload_n 1, 1) := by decide +kernel
theorem dL_664 : decode code 664 = .ok (.aload_n 0, 1) := by decide +kernel
theorem dL_665 : decode code 665 = .ok (.iload_n 3, 1) := by decide +kernel
theorem dL_666 : decode code 666 = .ok (.iconst 1, 1) := by decide +kernel
theorem dL_667 : decode code 667 = .ok (.iadd, 1) := by decide +kernel
theorem dL_668 : decode code 668 = .ok (.iaload, 1) := by decide +kernel
theorem dL_669 : decode code 669 = .ok (.aload_n 0, 1) := by decide +kernel
theorem dL_670 : decode code 670 = .ok (.iload_n 3, 1) := by decide +kernel
theorem dL_671 : decode code 671 = .ok (.iconst 2, 1) := by decide +kernel
theorem dL_672 : decode code 672 = .ok (.iadd, 1) := by decide +kernel
theorem dL_673 : decode code 673 = .ok (.iaload, 1) := by decide +kernel
theorem dL_674 : decode code 674 = .ok (.invokevirtual 77, 3) := by decide +kernel
theorem dL_677 : decode code 677 = .ok (.aload_n 2, 1) := by decide +kernel
theorem dL_678 : decode code 678 = .ok (.aload_n 0, 1) := by decide +kernel
theorem dL_679 : decode code 679 = .ok (.iload_n 3, 1) := by decide +kernel
theorem dL_680 : decode code 680 = .ok (.iconst 1, 1) := by decide +kernel
theorem dL_681 : decode code 681 = .ok (.iadd, 1) := by decide +kernel
theorem dL_682 : decode code 682 = .ok (.iaload, 1) := by decide +kernel
theorem dL_683 : decode code 683 = .ok (.aload_n 0, 1) := by decide +kernel
theorem dL_684 : decode code 684 = .ok (.iload_n 3, 1) := by decide +kernel
theorem dL_685 : decode code 685 = .ok (.iconst 2, 1) := by decide +kernel
theorem dL_686 : decode code 686 = .ok (.iadd, 1) := by decide +kernel
theorem dL_687 : decode code 687 = .ok (.iaload, 1) := by decide +kernel
theorem dL_688 : decode code 688 = .ok (.invokevirtual 80, 3) := by decide +kernel
theorem dL_691 : decode code 691 = .ok (.if_icmp .eq 753, 3) := by decide +kernel
theorem dL_694 : decode code 694 = .ok (.iconst 0, 1) := by decide +kernel
theorem dL_695 : decode code 695 = .ok (.ireturn, 1) := by decide +kernel
theorem dL_696 : decode code 696 = .ok (.aload_n 1, 1) := by decide +kernel
theorem dL_697 : decode code 697 = .ok (.aload_n 0, 1) := by decide +kernel
theorem dL_698 : decode code 698 = .ok (.iload_n 3, 1) := by decide +kernel
theorem dL_699 : decode code 699 = .ok (.iconst 1, 1) := by decide +kernel
theorem dL_700 : decode code 700 = .ok (.iadd, 1) := by decide +kernel
theorem dL_701 : decode code 701 = .ok (.iaload, 1) := by decide +kernel
theorem dL_702 : decode code 702 = .ok (.aload_n 0, 1) := by decide +kernel
theorem dL_703 : decode code 703 = .ok (.iload_n 3, 1) := by decide +kernel
theorem dL_704 : decode code 704 = .ok (.iconst 2, 1) := by decide +kernel
theorem dL_705 : decode code 705 = .ok (.iadd, 1) := by decide +kernel
theorem dL_706 : decode code 706 = .ok (.iaload, 1) := by decide +kernel
theorem dL_707 : decode code 707 = .ok (.invokevirtual 81, 3) := by decide +kernel
theorem dL_710 : decode code 710 = .ok (.aload_n 2, 1) := by decide +kernel
theorem dL_711 : decode code 711 = .ok (.aload_n 0, 1) := by decide +kernel
theorem dL_712 : decode code 712 = .ok (.iload_n 3, 1) := by decide +kernel
theorem dL_713 : decode code 713 = .ok (.iconst 1, 1) := by decide +kernel
theorem dL_714 : decode code 714 = .ok (.iadd, 1) := by decide +kernel
theorem dL_715 : decode code 715 = .ok (.iaload, 1) := by decide +kernel
theorem dL_716 : decode code 716 = .ok (.aload_n 0, 1) := by decide +kernel
theorem dL_717 : decode code 717 = .ok (.iload_n 3, 1) := by decide +kernel
theorem dL_718 : decode code 718 = .ok (.iconst 2, 1) := by decide +kernel
theorem dL_719 : decode code 719 = .ok (.iadd, 1) := by decide +kernel
theorem dL_720 : decode code 720 = .ok (.iaload, 1) := by decide +kernel
theorem dL_721 : decode code 721 = .ok (.invokevirtual 84, 3) := by decide +kernel
theorem dL_724 : decode code 724 = .ok (.if_icmp .eq 720, 3) := by decide +kernel
theorem dL_727 : decode code 727 = .ok (.iconst 0, 1) := by decide +kernel
theorem dL_728 : decode code 728 = .ok (.ireturn, 1) := by decide +kernel
theorem dL_729 : decode code 729 = .ok (.aload_n 1, 1) := by decide +kernel
theorem dL_730 : decode code 730 = .ok (.aload_n 0, 1) := by decide +kernel
theorem dL_731 : decode code 731 = .ok (.iload_n 3, 1) := by decide +kernel
theorem dL_732 : decode code 732 = .ok (.iconst 1, 1) := by decide +kernel
theorem dL_733 : decode code 733 = .ok (.iadd, 1) := by decide +kernel
theorem dL_734 : decode code 734 = .ok (.iaload, 1) := by decide +kernel
theorem dL_735 : decode code 735 = .ok (.aload_n 0, 1) := by decide +kernel
theorem dL_736 : decode code 736 = .ok (.iload_n 3, 1) := by decide +kernel
theorem dL_737 : decode code 737 = .ok (.iconst 2, 1) := by decide +kernel
theorem dL_738 : decode code 738 = .ok (.iadd, 1) := by decide +kernel
theorem dL_739 : decode code 739 = .ok (.iaload, 1) := by decide +kernel
theorem dL_740 : decode code 740 = .ok (.aload_n 0, 1) := by decide +kernel
theorem dL_741 : decode code 741 = .ok (.iload_n 3, 1) := by decide +kernel
theorem dL_742 : decode code 742 = .ok (.iconst 3, 1) := by decide +kernel
theorem dL_743 : decode code 743 = .ok (.iadd, 1) := by decide +kernel
theorem dL_744 : decode code 744 = .ok (.iaload, 1) := by decide +kernel
theorem dL_745 : decode code 745 = .ok (.invokevirtual 85, 3) := by decide +kernel
theorem dL_748 : decode code 748 = .ok (.aload_n 2, 1) := by decide +kernel
theorem dL_749 : decode code 749 = .ok (.aload_n 0, 1) := by decide +kernel
theorem dL_750 : decode code 750 = .ok (.iload_n 3, 1) := by decide +kernel
theorem dL_751 : decode code 751 = .ok (.iconst 1, 1) := by decide +kernel
theorem dL_752 : decode code 752 = .ok (.iadd, 1) := by decide +kernel
theorem dL_753 : decode code 753 = .ok (.iaload, 1) := by decide +kernel
theorem dL_754 : decode code 754 = .ok (.aload_n 0, 1) := by decide +kernel
theorem dL_755 : decode code 755 = .ok (.iload_n 3, 1) := by decide +kernel
theorem dL_756 : decode code 756 = .ok (.iconst 2, 1) := by decide +kernel
theorem dL_757 : decode code 757 = .ok (.iadd, 1) := by decide +kernel
theorem dL_758 : decode code 758 = .ok (.iaload, 1) := by decide +kernel
theorem dL_759 : decode code 759 = .ok (.aload_n 0, 1) := by decide +kernel
theorem dL_760 : decode code 760 = .ok (.iload_n 3, 1) := by decide +kernel
theorem dL_761 : decode code 761 = .ok (.iconst 3, 1) := by decide +kernel
theorem dL_762 : decode code 762 = .ok (.iadd, 1) := by decide +kernel
theorem dL_763 : decode code 763 = .ok (.iaload, 1) := by decide +kernel
theorem dL_764 : decode code 764 = .ok (.invokevirtual 89, 3) := by decide +kernel
theorem dL_767 : decode code 767 = .ok (.lcmp, 1) := by decide +kernel
theorem dL_768 : decode code 768 = .ok (.ifCond .eq 676, 3) := by decide +kernel
theorem dL_771 : decode code 771 = .ok (.iconst 0, 1) := by decide +kernel
theorem dL_772 : decode code 772 = .ok (.ireturn, 1) := by decide +kernel
theorem dL_773 : decode code 773 = .ok (.aload_n 1, 1) := by decide +kernel
theorem dL_774 : decode code 774 = .ok (.aload_n 0, 1) := by decide +kernel
theorem dL_775 : decode code 775 = .ok (.iload_n 3, 1) := by decide +kernel
theorem dL_776 : decode code 776 = .ok (.iconst 1, 1) := by decide +kernel
theorem dL_777 : decode code 777 = .ok (.iadd, 1) := by decide +kernel
theorem dL_778 : decode code 778 = .ok (.iaload, 1) := by decide +kernel
theorem dL_779 : decode code 779 = .ok (.aload_n 0, 1) := by decide +kernel
theorem dL_780 : decode code 780 = .ok (.iload_n 3, 1) := by decide +kernel
theorem dL_781 : decode code 781 = .ok (.iconst 2, 1) := by decide +kernel
theorem dL_782 : decode code 782 = .ok (.iadd, 1) := by decide +kernel
theorem dL_783 : decode code 783 = .ok (.iaload, 1) := by decide +kernel
theorem dL_784 : decode code 784 = .ok (.invokevirtual 90, 3) := by decide +kernel
theorem dL_787 : decode code 787 = .ok (.aload_n 2, 1) := by decide +kernel
theorem dL_788 : decode code 788 = .ok (.aload_n 0, 1) := by decide +kernel
theorem dL_789 : decode code 789 = .ok (.iload_n 3, 1) := by decide +kernel
theorem dL_790 : decode code 790 = .ok (.iconst 1, 1) := by decide +kernel
theorem dL_791 : decode code 791 = .ok (.iadd, 1) := by decide +kernel
theorem dL_792 : decode code 792 = .ok (.iaload, 1) := by decide +kernel
theorem dL_793 : decode code 793 = .ok (.aload_n 0, 1) := by decide +kernel
theorem dL_794 : decode code 794 = .ok (.iload_n 3, 1) := by decide +kernel
theorem dL_795 : decode code 795 = .ok (.iconst 2, 1) := by decide +kernel
theorem dL_796 : decode code 796 = .ok (.iadd, 1) := by decide +kernel
theorem dL_797 : decode code 797 = .ok (.iaload, 1) := by decide +kernel
theorem dL_798 : decode code 798 = .ok (.invokevirtual 93, 3) := by decide +kernel
theorem dL_801 : decode code 801 = .ok (.if_icmp .eq 643, 3) := by decide +kernel
theorem dL_804 : decode code 804 = .ok (.iconst 0, 1) := by decide +kernel
theorem dL_805 : decode code 805 = .ok (.ireturn, 1) := by decide +kernel
theorem dL_806 : decode code 806 = .ok (.aload_n 1, 1) := by decide +kernel
theorem dL_807 : decode code 807 = .ok (.aload_n 0, 1) := by decide +kernel
theorem dL_808 : decode code 808 = .ok (.iload_n 3, 1) := by decide +kernel
theorem dL_809 : decode code 809 = .ok (.iconst 1, 1) := by decide +kernel
theorem dL_810 : decode code 810 = .ok (.iadd, 1) := by decide +kernel
theorem dL_811 : decode code 811 = .ok (.iaload, 1) := by decide +kernel
theorem dL_812 : decode code 812 = .ok (.aload_n 0, 1) := by decide +kernel
theorem dL_813 : decode code 813 = .ok (.iload_n 3, 1) := by decide +kernel
theorem dL_814 : decode code 814 = .ok (.iconst 2, 1) := by decide +kernel
theorem dL_815 : decode code 815 = .ok (.iadd, 1) := by decide +kernel
theorem dL_816 : decode code 816 = .ok (.iaload, 1) := by decide +kernel
theorem dL_817 : decode code 817 = .ok (.invokevirtual 94, 3) := by decide +kernel
theorem dL_820 : decode code 820 = .ok (.aload_n 2, 1) := by decide +kernel
theorem dL_821 : decode code 821 = .ok (.aload_n 0, 1) := by decide +kernel
theorem dL_822 : decode code 822 = .ok (.iload_n 3, 1) := by decide +kernel
theorem dL_823 : decode code 823 = .ok (.iconst 1, 1) := by decide +kernel
theorem dL_824 : decode code 824 = .ok (.iadd, 1) := by decide +kernel
theorem dL_825 : decode code 825 = .ok (.iaload, 1) := by decide +kernel
theorem dL_826 : decode code 826 = .ok (.aload_n 0, 1) := by decide +kernel
theorem dL_827 : decode code 827 = .ok (.iload_n 3, 1) := by decide +kernel
theorem dL_828 : decode code 828 = .ok (.iconst 2, 1) := by decide +kernel
theorem dL_829 : decode code 829 = .ok (.iadd, 1) := by decide +kernel
theorem dL_830 : decode code 830 = .ok (.iaload, 1) := by decide +kernel
theorem dL_831 : decode code 831 = .ok (.invokevirtual 97, 3) := by decide +kernel
theorem dL_834 : decode code 834 = .ok (.if_icmp .eq 610, 3) := by decide +kernel
theorem dL_837 : decode code 837 = .ok (.iconst 0, 1) := by decide +kernel
theorem dL_838 : decode code 838 = .ok (.ireturn, 1) := by decide +kernel
theorem dL_839 : decode code 839 = .ok (.aload_n 1, 1) := by decide +kernel
theorem dL_840 : decode code 840 = .ok (.aload_n 0, 1) := by decide +kernel
theorem dL_841 : decode code 841 = .ok (.iload_n 3, 1) := by decide +kernel
theorem dL_842 : decode code 842 = .ok (.iconst 1, 1) := by decide +kernel
theorem dL_843 : decode code 843 = .ok (.iadd, 1) := by decide +kernel
theorem dL_844 : decode code 844 = .ok (.iaload, 1) := by decide +kernel
theorem dL_845 : decode code 845 = .ok (.invokevirtual 98, 3) := by decide +kernel
theorem dL_848 : decode code 848 = .ok (.aload_n 2, 1) := by decide +kernel
theorem dL_849 : decode code 849 = .ok (.aload_n 0, 1) := by decide +kernel
theorem dL_850 : decode code 850 = .ok (.iload_n 3, 1) := by decide +kernel
theorem dL_851 : decode code 851 = .ok (.iconst 1, 1) := by decide +kernel
theorem dL_852 : decode code 852 = .ok (.iadd, 1) := by decide +kernel
theorem dL_853 : decode code 853 = .ok (.iaload, 1) := by decide +kernel
theorem dL_854 : decode code 854 = .ok (.invokevirtual 101, 3) := by decide +kernel
theorem dL_857 : decode code 857 = .ok (.if_icmp .eq 587, 3) := by decide +kernel
theorem dL_860 : decode code 860 = .ok (.iconst 0, 1) := by decide +kernel
theorem dL_861 : decode code 861 = .ok (.ireturn, 1) := by decide +kernel
theorem dL_862 : decode code 862 = .ok (.aload_n 1, 1) := by decide +kernel
theorem dL_863 : decode code 863 = .ok (.aload_n 0, 1) := by decide +kernel
theorem dL_864 : decode code 864 = .ok (.iload_n 3, 1) := by decide +kernel
theorem dL_865 : decode code 865 = .ok (.iconst 1, 1) := by decide +kernel
theorem dL_866 : decode code 866 = .ok (.iadd, 1) := by decide +kernel
theorem dL_867 : decode code 867 = .ok (.iaload, 1) := by decide +kernel
theorem dL_868 : decode code 868 = .ok (.aload_n 0, 1) := by decide +kernel
theorem dL_869 : decode code 869 = .ok (.iload_n 3, 1) := by decide +kernel
theorem dL_870 : decode code 870 = .ok (.iconst 2, 1) := by decide +kernel
theorem dL_871 : decode code 871 = .ok (.iadd, 1) := by decide +kernel
theorem dL_872 : decode code 872 = .ok (.iaload, 1) := by decide +kernel
theorem dL_873 : decode code 873 = .ok (.aload_n 0, 1) := by decide +kernel
theorem dL_874 : decode code 874 = .ok (.iload_n 3, 1) := by decide +kernel
theorem dL_875 : decode code 875 = .ok (.iconst 3, 1) := by decide +kernel
theorem dL_876 : decode code 876 = .ok (.iadd, 1) := by decide +kernel
theorem dL_877 : decode code 877 = .ok (.iaload, 1) := by decide +kernel
theorem dL_878 : decode code 878 = .ok (.invokevirtual 102, 3) := by decide +kernel
theorem dL_881 : decode code 881 = .ok (.aload_n 2, 1) := by decide +kernel
theorem dL_882 : decode code 882 = .ok (.aload_n 0, 1) := by decide +kernel
theorem dL_883 : decode code 883 = .ok (.iload_n 3, 1) := by decide +kernel
theorem dL_884 : decode code 884 = .ok (.iconst 1, 1) := by decide +kernel
theorem dL_885 : decode code 885 = .ok (.iadd, 1) := by decide +kernel
theorem dL_886 : decode code 886 = .ok (.iaload, 1) := by decide +kernel
theorem dL_887 : decode code 887 = .ok (.aload_n 0, 1) := by decide +kernel
theorem dL_888 : decode code 888 = .ok (.iload_n 3, 1) := by decide +kernel
theorem dL_889 : decode code 889 = .ok (.iconst 2, 1) := by decide +kernel
theorem dL_890 : decode code 890 = .ok (.iadd, 1) := by decide +kernel
theorem dL_891 : decode code 891 = .ok (.iaload, 1) := by decide +kernel
theorem dL_892 : decode code 892 = .ok (.aload_n 0, 1) := by decide +kernel
theorem dL_893 : decode code 893 = .ok (.iload_n 3, 1) := by decide +kernel
theorem dL_894 : decode code 894 = .ok (.iconst 3, 1) := by decide +kernel
theorem dL_895 : decode code 895 = .ok (.iadd, 1) := by decide +kernel
theorem dL_896 : decode code 896 = .ok (.iaload, 1) := by decide +kernel
theorem dL_897 : decode code 897 = .ok (.invokevirtual 105, 3) := by decide +kernel
theorem dL_900 : decode code 900 = .ok (.lcmp, 1) := by decide +kernel
theorem dL_901 : decode code 901 = .ok (.ifCond .eq 543, 3) := by decide +kernel
theorem dL_904 : decode code 904 = .ok (.iconst 0, 1) := by decide +kernel
theorem dL_905 : decode code 905 = .ok (.ireturn, 1) := by decide +kernel
theorem dL_906 : decode code 906 = .ok (.aload_n 1, 1) := by decide +kernel
theorem dL_907 : decode code 907 = .ok (.aload_n 0, 1) := by decide +kernel
theorem dL_908 : decode code 908 = .ok (.iload_n 3, 1) := by decide +kernel
theorem dL_909 : decode code 909 = .ok (.iconst 1, 1) := by decide +kernel
theorem dL_910 : decode code 910 = .ok (.iadd, 1) := by decide +kernel
theorem dL_911 : decode code 911 = .ok (.iaload, 1) := by decide +kernel
theorem dL_912 : decode code 912 = .ok (.invokevirtual 106, 3) := by decide +kernel
theorem dL_915 : decode code 915 = .ok (.aload_n 2, 1) := by decide +kernel
theorem dL_916 : decode code 916 = .ok (.aload_n 0, 1) := by decide +kernel
theorem dL_917 : decode code 917 = .ok (.iload_n 3, 1) := by decide +kernel
theorem dL_918 : decode code 918 = .ok (.iconst 1, 1) := by decide +kernel
theorem dL_919 : decode code 919 = .ok (.iadd, 1) := by decide +kernel
theorem dL_920 : decode code 920 = .ok (.iaload, 1) := by decide +kernel
theorem dL_921 : decode code 921 = .ok (.invokevirtual 109, 3) := by decide +kernel
theorem dL_924 : decode code 924 = .ok (.if_icmp .eq 520, 3) := by decide +kernel
theorem dL_927 : decode code 927 = .ok (.iconst 0, 1) := by decide +kernel
theorem dL_928 : decode code 928 = .ok (.ireturn, 1) := by decide +kernel
theorem dL_929 : decode code 929 = .ok (.aload_n 1, 1) := by decide +kernel
theorem dL_930 : decode code 930 = .ok (.aload_n 0, 1) := by decide +kernel
theorem dL_931 : decode code 931 = .ok (.iload_n 3, 1) := by decide +kernel
theorem dL_932 : decode code 932 = .ok (.iconst 1, 1) := by decide +kernel
theorem dL_933 : decode code 933 = .ok (.iadd, 1) := by decide +kernel
theorem dL_934 : decode code 934 = .ok (.iaload, 1) := by decide +kernel
theorem dL_935 : decode code 935 = .ok (.aload_n 0, 1) := by decide +kernel
theorem dL_936 : decode code 936 = .ok (.iload_n 3, 1) := by decide +kernel
theorem dL_937 : decode code 937 = .ok (.iconst 2, 1) := by decide +kernel
theorem dL_938 : decode code 938 = .ok (.iadd, 1) := by decide +kernel
theorem dL_939 : decode code 939 = .ok (.iaload, 1) := by decide +kernel
theorem dL_940 : decode code 940 = .ok (.invokevirtual 110, 3) := by decide +kernel
theorem dL_943 : decode code 943 = .ok (.aload_n 2, 1) := by decide +kernel
theorem dL_944 : decode code 944 = .ok (.aload_n 0, 1) := by decide +kernel
theorem dL_945 : decode code 945 = .ok (.iload_n 3, 1) := by decide +kernel
theorem dL_946 : decode code 946 = .ok (.iconst 1, 1) := by decide +kernel
theorem dL_947 : decode code 947 = .ok (.iadd, 1) := by decide +kernel
theorem dL_948 : decode code 948 = .ok (.iaload, 1) := by decide +kernel
theorem dL_949 : decode code 949 = .ok (.aload_n 0, 1) := by decide +kernel
theorem dL_950 : decode code 950 = .ok (.iload_n 3, 1) := by decide +kernel
theorem dL_951 : decode code 951 = .ok (.iconst 2, 1) := by decide +kernel
theorem dL_952 : decode code 952 = .ok (.iadd, 1) := by decide +kernel
theorem dL_953 : decode code 953 = .ok (.iaload, 1) := by decide +kernel
theorem dL_954 : decode code 954 = .ok (.invokevirtual 114, 3) := by decide +kernel
theorem dL_957 : decode code 957 = .ok (.lcmp, 1) := by decide +kernel
theorem dL_958 : decode code 958 = .ok (.ifCond .eq 486, 3) := by decide +kernel
theorem dL_961 : decode code 961 = .ok (.iconst 0, 1) := by decide +kernel
theorem dL_962 : decode code 962 = .ok (.ireturn, 1) := by decide +kernel
theorem dL_963 : decode code 963 = .ok (.aload_n 1, 1) := by decide +kernel
theorem dL_964 : decode code 964 = .ok (.aload_n 0, 1) := by decide +kernel
theorem dL_965 : decode code 965 = .ok (.iload_n 3, 1) := by decide +kernel
theorem dL_966 : decode code 966 = .ok (.iconst 1, 1) := by decide +kernel
theorem dL_967 : decode code 967 = .ok (.iadd, 1) := by decide +kernel
theorem dL_968 : decode code 968 = .ok (.iaload, 1) := by decide +kernel
theorem dL_969 : decode code 969 = .ok (.aload_n 0, 1) := by decide +kernel
theorem dL_970 : decode code 970 = .ok (.iload_n 3, 1) := by decide +kernel
theorem dL_971 : decode code 971 = .ok (.iconst 2, 1) := by decide +kernel
theorem dL_972 : decode code 972 = .ok (.iadd, 1) := by decide +kernel
theorem dL_973 : decode code 973 = .ok (.iaload, 1) := by decide +kernel
theorem dL_974 : decode code 974 = .ok (.aload_n 0, 1) := by decide +kernel
theorem dL_975 : decode code 975 = .ok (.iload_n 3, 1) := by decide +kernel
theorem dL_976 : decode code 976 = .ok (.iconst 3, 1) := by decide +kernel
theorem dL_977 : decode code 977 = .ok (.iadd, 1) := by decide +kernel
theorem dL_978 : decode code 978 = .ok (.iaload, 1) := by decide +kernel
theorem dL_979 : decode code 979 = .ok (.invokevirtual 115, 3) := by decide +kernel
theorem dL_982 : decode code 982 = .ok (.aload_n 2, 1) := by decide +kernel
theorem dL_983 : decode code 983 = .ok (.aload_n 0, 1) := by decide +kernel
theorem dL_984 : decode code 984 = .ok (.iload_n 3, 1) := by decide +kernel
theorem dL_985 : decode code 985 = .ok (.iconst 1, 1) := by decide +kernel
theorem dL_986 : decode code 986 = .ok (.iadd, 1) := by decide +kernel
theorem dL_987 : decode code 987 = .ok (.iaload, 1) := by decide +kernel
theorem dL_988 : decode code 988 = .ok (.aload_n 0, 1) := by decide +kernel
theorem dL_989 : decode code 989 = .ok (.iload_n 3, 1) := by decide +kernel
theorem dL_990 : decode code 990 = .ok (.iconst 2, 1) := by decide +kernel
theorem dL_991 : decode code 991 = .ok (.iadd, 1) := by decide +kernel
theorem dL_992 : decode code 992 = .ok (.iaload, 1) := by decide +kernel
theorem dL_993 : decode code 993 = .ok (.aload_n 0, 1) := by decide +kernel
theorem dL_994 : decode code 994 = .ok (.iload_n 3, 1) := by decide +kernel
theorem dL_995 : decode code 995 = .ok (.iconst 3, 1) := by decide +kernel
theorem dL_996 : decode code 996 = .ok (.iadd, 1) := by decide +kernel
theorem dL_997 : decode code 997 = .ok (.iaload, 1) := by decide +kernel
theorem dL_998 : decode code 998 = .ok (.invokevirtual 118, 3) := by decide +kernel
theorem dL_1001 : decode code 1001 = .ok (.lcmp, 1) := by decide +kernel
theorem dL_1002 : decode code 1002 = .ok (.ifCond .eq 442, 3) := by decide +kernel
theorem dL_1005 : decode code 1005 = .ok (.iconst 0, 1) := by decide +kernel
theorem dL_1006 : decode code 1006 = .ok (.ireturn, 1) := by decide +kernel
theorem dL_1007 : decode code 1007 = .ok (.aload_n 1, 1) := by decide +kernel
theorem dL_1008 : decode code 1008 = .ok (.aload_n 0, 1) := by decide +kernel
theorem dL_1009 : decode code 1009 = .ok (.iload_n 3, 1) := by decide +kernel
theorem dL_1010 : decode code 1010 = .ok (.iconst 1, 1) := by decide +kernel
theorem dL_1011 : decode code 1011 = .ok (.iadd, 1) := by decide +kernel
theorem dL_1012 : decode code 1012 = .ok (.iaload, 1) := by decide +kernel
theorem dL_1013 : decode code 1013 = .ok (.aload_n 0, 1) := by decide +kernel
theorem dL_1014 : decode code 1014 = .ok (.iload_n 3, 1) := by decide +kernel
theorem dL_1015 : decode code 1015 = .ok (.iconst 2, 1) := by decide +kernel
theorem dL_1016 : decode code 1016 = .ok (.iadd, 1) := by decide +kernel
theorem dL_1017 : decode code 1017 = .ok (.iaload, 1) := by decide +kernel
theorem dL_1018 : decode code 1018 = .ok (.invokevirtual 119, 3) := by decide +kernel
theorem dL_1021 : decode code 1021 = .ok (.aload_n 2, 1) := by decide +kernel
theorem dL_1022 : decode code 1022 = .ok (.aload_n 0, 1) := by decide +kernel
theorem dL_1023 : decode code 1023 = .ok (.iload_n 3, 1) := by decide +kernel
theorem dL_1024 : decode code 1024 = .ok (.iconst 1, 1) := by decide +kernel
theorem dL_1025 : decode code 1025 = .ok (.iadd, 1) := by decide +kernel
theorem dL_1026 : decode code 1026 = .ok (.iaload, 1) := by decide +kernel
theorem dL_1027 : decode code 1027 = .ok (.aload_n 0, 1) := by decide +kernel
theorem dL_1028 : decode code 1028 = .ok (.iload_n 3, 1) := by decide +kernel
theorem dL_1029 : decode code 1029 = .ok (.iconst 2, 1) := by decide +kernel
theorem dL_1030 : decode code 1030 = .ok (.iadd, 1) := by decide +kernel
theorem dL_1031 : decode code 1031 = .ok (.iaload, 1) := by decide +kernel
theorem dL_1032 : decode code 1032 = .ok (.invokevirtual 122, 3) := by decide +kernel
theorem dL_1035 : decode code 1035 = .ok (.if_icmp .eq 409, 3) := by decide +kernel
theorem dL_1038 : decode code 1038 = .ok (.iconst 0, 1) := by decide +kernel
theorem dL_1039 : decode code 1039 = .ok (.ireturn, 1) := by decide +kernel
theorem dL_1040 : decode code 1040 = .ok (.aload_n 1, 1) := by decide +kernel
theorem dL_1041 : decode code 1041 = .ok (.aload_n 0, 1) := by decide +kernel
theorem dL_1042 : decode code 1042 = .ok (.iload_n 3, 1) := by decide +kernel
theorem dL_1043 : decode code 1043 = .ok (.iconst 1, 1) := by decide +kernel
theorem dL_1044 : decode code 1044 = .ok (.iadd, 1) := by decide +kernel
theorem dL_1045 : decode code 1045 = .ok (.iaload, 1) := by decide +kernel
theorem dL_1046 : decode code 1046 = .ok (.invokevirtual 123, 3) := by decide +kernel
theorem dL_1049 : decode code 1049 = .ok (.aload_n 2, 1) := by decide +kernel
theorem dL_1050 : decode code 1050 = .ok (.aload_n 0, 1) := by decide +kernel
theorem dL_1051 : decode code 1051 = .ok (.iload_n 3, 1) := by decide +kernel
theorem dL_1052 : decode code 1052 = .ok (.iconst 1, 1) := by decide +kernel
theorem dL_1053 : decode code 1053 = .ok (.iadd, 1) := by decide +kernel
theorem dL_1054 : decode code 1054 = .ok (.iaload, 1) := by decide +kernel
theorem dL_1055 : decode code 1055 = .ok (.invokevirtual 127, 3) := by decide +kernel
theorem dL_1058 : decode code 1058 = .ok (.lcmp, 1) := by decide +kernel
theorem dL_1059 : decode code 1059 = .ok (.ifCond .eq 385, 3) := by decide +kernel
theorem dL_1062 : decode code 1062 = .ok (.iconst 0, 1) := by decide +kernel
theorem dL_1063 : decode code 1063 = .ok (.ireturn, 1) := by decide +kernel
theorem dL_1064 : decode code 1064 = .ok (.aload_n 1, 1) := by decide +kernel
theorem dL_1065 : decode code 1065 = .ok (.aload_n 0, 1) := by decide +kernel
theorem dL_1066 : decode code 1066 = .ok (.iload_n 3, 1) := by decide +kernel
theorem dL_1067 : decode code 1067 = .ok (.iconst 1, 1) := by decide +kernel
theorem dL_1068 : decode code 1068 = .ok (.iadd, 1) := by decide +kernel
theorem dL_1069 : decode code 1069 = .ok (.iaload, 1) := by decide +kernel
theorem dL_1070 : decode code 1070 = .ok (.invokevirtual 128, 3) := by decide +kernel
theorem dL_1073 : decode code 1073 = .ok (.aload_n 2, 1) := by decide +kernel
theorem dL_1074 : decode code 1074 = .ok (.aload_n 0, 1) := by decide +kernel
theorem dL_1075 : decode code 1075 = .ok (.iload_n 3, 1) := by decide +kernel
theorem dL_1076 : decode code 1076 = .ok (.iconst 1, 1) := by decide +kernel
theorem dL_1077 : decode code 1077 = .ok (.iadd, 1) := by decide +kernel
theorem dL_1078 : decode code 1078 = .ok (.iaload, 1) := by decide +kernel
theorem dL_1079 : decode code 1079 = .ok (.invokevirtual 131, 3) := by decide +kernel
theorem dL_1082 : decode code 1082 = .ok (.if_icmp .eq 362, 3) := by decide +kernel
theorem dL_1085 : decode code 1085 = .ok (.iconst 0, 1) := by decide +kernel
theorem dL_1086 : decode code 1086 = .ok (.ireturn, 1) := by decide +kernel
theorem dL_1087 : decode code 1087 = .ok (.aload_n 1, 1) := by decide +kernel
theorem dL_1088 : decode code 1088 = .ok (.invokevirtual 132, 3) := by decide +kernel
theorem dL_1091 : decode code 1091 = .ok (.aload_n 2, 1) := by decide +kernel
theorem dL_1092 : decode code 1092 = .ok (.invokevirtual 136, 3) := by decide +kernel
theorem dL_1095 : decode code 1095 = .ok (.if_icmp .eq 349, 3) := by decide +kernel
theorem dL_1098 : decode code 1098 = .ok (.iconst 0, 1) := by decide +kernel
theorem dL_1099 : decode code 1099 = .ok (.ireturn, 1) := by decide +kernel
theorem dL_1100 : decode code 1100 = .ok (.aload_n 1, 1) := by decide +kernel
theorem dL_1101 : decode code 1101 = .ok (.invokevirtual 137, 3) := by decide +kernel
theorem dL_1104 : decode code 1104 = .ok (.aload_n 2, 1) := by decide +kernel
theorem dL_1105 : decode code 1105 = .ok (.invokevirtual 140, 3) := by decide +kernel
theorem dL_1108 : decode code 1108 = .ok (.if_icmp .eq 336, 3) := by decide +kernel
theorem dL_1111 : decode code 1111 = .ok (.iconst 0, 1) := by decide +kernel
theorem dL_1112 : decode code 1112 = .ok (.ireturn, 1) := by decide +kernel
theorem dL_1113 : decode code 1113 = .ok (.aload_n 1, 1) := by decide +kernel
theorem dL_1114 : decode code 1114 = .ok (.invokevirtual 141, 3) := by decide +kernel
theorem dL_1117 : decode code 1117 = .ok (.aload_n 2, 1) := by decide +kernel
theorem dL_1118 : decode code 1118 = .ok (.invokevirtual 144, 3) := by decide +kernel
theorem dL_1121 : decode code 1121 = .ok (.if_icmp .eq 323, 3) := by decide +kernel
theorem dL_1124 : decode code 1124 = .ok (.iconst 0, 1) := by decide +kernel
theorem dL_1125 : decode code 1125 = .ok (.ireturn, 1) := by decide +kernel
theorem dL_1126 : decode code 1126 = .ok (.aload_n 1, 1) := by decide +kernel
theorem dL_1127 : decode code 1127 = .ok (.aload_n 0, 1) := by decide +kernel
theorem dL_1128 : decode code 1128 = .ok (.iload_n 3, 1) := by decide +kernel
theorem dL_1129 : decode code 1129 = .ok (.iconst 1, 1) := by decide +kernel
theorem dL_1130 : decode code 1130 = .ok (.iadd, 1) := by decide +kernel
theorem dL_1131 : decode code 1131 = .ok (.iaload, 1) := by decide +kernel
theorem dL_1132 : decode code 1132 = .ok (.invokevirtual 145, 3) := by decide +kernel
theorem dL_1135 : decode code 1135 = .ok (.aload_n 2, 1) := by decide +kernel
theorem dL_1136 : decode code 1136 = .ok (.aload_n 0, 1) := by decide +kernel
theorem dL_1137 : decode code 1137 = .ok (.iload_n 3, 1) := by decide +kernel
theorem dL_1138 : decode code 1138 = .ok (.iconst 1, 1) := by decide +kernel
theorem dL_1139 : decode code 1139 = .ok (.iadd, 1) := by decide +kernel
theorem dL_1140 : decode code 1140 = .ok (.iaload, 1) := by decide +kernel
theorem dL_1141 : decode code 1141 = .ok (.invokevirtual 148, 3) := by decide +kernel
theorem dL_1144 : decode code 1144 = .ok (.if_icmp .eq 300, 3) := by decide +kernel
theorem dL_1147 : decode code 1147 = .ok (.iconst 0, 1) := by decide +kernel
theorem dL_1148 : decode code 1148 = .ok (.ireturn, 1) := by decide +kernel
theorem dL_1149 : decode code 1149 = .ok (.aload_n 1, 1) := by decide +kernel
theorem dL_1150 : decode code 1150 = .ok (.aload_n 0, 1) := by decide +kernel
theorem dL_1151 : decode code 1151 = .ok (.iload_n 3, 1) := by decide +kernel
theorem dL_1152 : decode code 1152 = .ok (.iconst 1, 1) := by decide +kernel
theorem dL_1153 : decode code 1153 = .ok (.iadd, 1) := by decide +kernel
theorem dL_1154 : decode code 1154 = .ok (.iaload, 1) := by decide +kernel
theorem dL_1155 : decode code 1155 = .ok (.aload_n 0, 1) := by decide +kernel
theorem dL_1156 : decode code 1156 = .ok (.iload_n 3, 1) := by decide +kernel
theorem dL_1157 : decode code 1157 = .ok (.iconst 2, 1) := by decide +kernel
theorem dL_1158 : decode code 1158 = .ok (.iadd, 1) := by decide +kernel
theorem dL_1159 : decode code 1159 = .ok (.iaload, 1) := by decide +kernel
theorem dL_1160 : decode code 1160 = .ok (.aload_n 0, 1) := by decide +kernel
theorem dL_1161 : decode code 1161 = .ok (.iload_n 3, 1) := by decide +kernel
theorem dL_1162 : decode code 1162 = .ok (.iconst 3, 1) := by decide +kernel
theorem dL_1163 : decode code 1163 = .ok (.iadd, 1) := by decide +kernel
theorem dL_1164 : decode code 1164 = .ok (.iaload, 1) := by decide +kernel
theorem dL_1165 : decode code 1165 = .ok (.invokevirtual 149, 3) := by decide +kernel
theorem dL_1168 : decode code 1168 = .ok (.aload_n 2, 1) := by decide +kernel
theorem dL_1169 : decode code 1169 = .ok (.aload_n 0, 1) := by decide +kernel
theorem dL_1170 : decode code 1170 = .ok (.iload_n 3, 1) := by decide +kernel
theorem dL_1171 : decode code 1171 = .ok (.iconst 1, 1) := by decide +kernel
theorem dL_1172 : decode code 1172 = .ok (.iadd, 1) := by decide +kernel
theorem dL_1173 : decode code 1173 = .ok (.iaload, 1) := by decide +kernel
theorem dL_1174 : decode code 1174 = .ok (.aload_n 0, 1) := by decide +kernel
theorem dL_1175 : decode code 1175 = .ok (.iload_n 3, 1) := by decide +kernel
theorem dL_1176 : decode code 1176 = .ok (.iconst 2, 1) := by decide +kernel
theorem dL_1177 : decode code 1177 = .ok (.iadd, 1) := by decide +kernel
theorem dL_1178 : decode code 1178 = .ok (.iaload, 1) := by decide +kernel
theorem dL_1179 : decode code 1179 = .ok (.aload_n 0, 1) := by decide +kernel
theorem dL_1180 : decode code 1180 = .ok (.iload_n 3, 1) := by decide +kernel
theorem dL_1181 : decode code 1181 = .ok (.iconst 3, 1) := by decide +kernel
theorem dL_1182 : decode code 1182 = .ok (.iadd, 1) := by decide +kernel
theorem dL_1183 : decode code 1183 = .ok (.iaload, 1) := by decide +kernel
theorem dL_1184 : decode code 1184 = .ok (.invokevirtual 152, 3) := by decide +kernel
theorem dL_1187 : decode code 1187 = .ok (.if_icmp .eq 257, 3) := by decide +kernel
theorem dL_1190 : decode code 1190 = .ok (.iconst 0, 1) := by decide +kernel
theorem dL_1191 : decode code 1191 = .ok (.ireturn, 1) := by decide +kernel
theorem dL_1192 : decode code 1192 = .ok (.aload_n 1, 1) := by decide +kernel
theorem dL_1193 : decode code 1193 = .ok (.aload_n 0, 1) := by decide +kernel
theorem dL_1194 : decode code 1194 = .ok (.iload_n 3, 1) := by decide +kernel
theorem dL_1195 : decode code 1195 = .ok (.iconst 1, 1) := by decide +kernel
theorem dL_1196 : decode code 1196 = .ok (.iadd, 1) := by decide +kernel
theorem dL_1197 : decode code 1197 = .ok (.iaload, 1) := by decide +kernel
theorem dL_1198 : decode code 1198 = .ok (.invokevirtual 153, 3) := by decide +kernel
theorem dL_1201 : decode code 1201 = .ok (.aload_n 2, 1) := by decide +kernel
theorem dL_1202 : decode code 1202 = .ok (.aload_n 0, 1) := by decide +kernel
theorem dL_1203 : decode code 1203 = .ok (.iload_n 3, 1) := by decide +kernel
theorem dL_1204 : decode code 1204 = .ok (.iconst 1, 1) := by decide +kernel
theorem dL_1205 : decode code 1205 = .ok (.iadd, 1) := by decide +kernel
theorem dL_1206 : decode code 1206 = .ok (.iaload, 1) := by decide +kernel
theorem dL_1207 : decode code 1207 = .ok (.invokevirtual 156, 3) := by decide +kernel
theorem dL_1210 : decode code 1210 = .ok (.if_icmp .eq 234, 3) := by decide +kernel
theorem dL_1213 : decode code 1213 = .ok (.iconst 0, 1) := by decide +kernel
theorem dL_1214 : decode code 1214 = .ok (.ireturn, 1) := by decide +kernel
theorem dL_1215 : decode code 1215 = .ok (.aload_n 1, 1) := by decide +kernel
theorem dL_1216 : decode code 1216 = .ok (.aload_n 0, 1) := by decide +kernel
theorem dL_1217 : decode code 1217 = .ok (.iload_n 3, 1) := by decide +kernel
theorem dL_1218 : decode code 1218 = .ok (.iconst 1, 1) := by decide +kernel
theorem dL_1219 : decode code 1219 = .ok (.iadd, 1) := by decide +kernel
theorem dL_1220 : decode code 1220 = .ok (.iaload, 1) := by decide +kernel
theorem dL_1221 : decode code 1221 = .ok (.aload_n 0, 1) := by decide +kernel
theorem dL_1222 : decode code 1222 = .ok (.iload_n 3, 1) := by decide +kernel
theorem dL_1223 : decode code 1223 = .ok (.iconst 2, 1) := by decide +kernel
theorem dL_1224 : decode code 1224 = .ok (.iadd, 1) := by decide +kernel
theorem dL_1225 : decode code 1225 = .ok (.iaload, 1) := by decide +kernel
theorem dL_1226 : decode code 1226 = .ok (.aload_n 0, 1) := by decide +kernel
theorem dL_1227 : decode code 1227 = .ok (.iload_n 3, 1) := by decide +kernel
theorem dL_1228 : decode code 1228 = .ok (.iconst 3, 1) := by decide +kernel
theorem dL_1229 : decode code 1229 = .ok (.iadd, 1) := by decide +kernel
theorem dL_1230 : decode code 1230 = .ok (.iaload, 1) := by decide +kernel
theorem dL_1231 : decode code 1231 = .ok (.aload_n 0, 1) := by decide +kernel
theorem dL_1232 : decode code 1232 = .ok (.iload_n 3, 1) := by decide +kernel
theorem dL_1233 : decode code 1233 = .ok (.iconst 4, 1) := by decide +kernel
theorem dL_1234 : decode code 1234 = .ok (.iadd, 1) := by decide +kernel
theorem dL_1235 : decode code 1235 = .ok (.iaload, 1) := by decide +kernel
theorem dL_1236 : decode code 1236 = .ok (.invokevirtual 157, 3) := by decide +kernel
theorem dL_1239 : decode code 1239 = .ok (.aload_n 2, 1) := by decide +kernel
theorem dL_1240 : decode code 1240 = .ok (.aload_n 0, 1) := by decide +kernel
theorem dL_1241 : decode code 1241 = .ok (.iload_n 3, 1) := by decide +kernel
theorem dL_1242 : decode code 1242 = .ok (.iconst 1, 1) := by decide +kernel
theorem dL_1243 : decode code 1243 = .ok (.iadd, 1) := by decide +kernel
theorem dL_1244 : decode code 1244 = .ok (.iaload, 1) := by decide +kernel
theorem dL_1245 : decode code 1245 = .ok (.aload_n 0, 1) := by decide +kernel
theorem dL_1246 : decode code 1246 = .ok (.iload_n 3, 1) := by decide +kernel
theorem dL_1247 : decode code 1247 = .ok (.iconst 2, 1) := by decide +kernel
theorem dL_1248 : decode code 1248 = .ok (.iadd, 1) := by decide +kernel
theorem dL_1249 : decode code 1249 = .ok (.iaload, 1) := by decide +kernel
theorem dL_1250 : decode code 1250 = .ok (.aload_n 0, 1) := by decide +kernel
theorem dL_1251 : decode code 1251 = .ok (.iload_n 3, 1) := by decide +kernel
theorem dL_1252 : decode code 1252 = .ok (.iconst 3, 1) := by decide +kernel
theorem dL_1253 : decode code 1253 = .ok (.iadd, 1) := by decide +kernel
theorem dL_1254 : decode code 1254 = .ok (.iaload, 1) := by decide +kernel
theorem dL_1255 : decode code 1255 = .ok (.aload_n 0, 1) := by decide +kernel
theorem dL_1256 : decode code 1256 = .ok (.iload_n 3, 1) := by decide +kernel
theorem dL_1257 : decode code 1257 = .ok (.iconst 4, 1) := by decide +kernel
theorem dL_1258 : decode code 1258 = .ok (.iadd, 1) := by decide +kernel
theorem dL_1259 : decode code 1259 = .ok (.iaload, 1) := by decide +kernel
theorem dL_1260 : decode code 1260 = .ok (.invokevirtual 160, 3) := by decide +kernel
theorem dL_1263 : decode code 1263 = .ok (.if_icmp .eq 181, 3) := by decide +kernel
theorem dL_1266 : decode code 1266 = .ok (.iconst 0, 1) := by decide +kernel
theorem dL_1267 : decode code 1267 = .ok (.ireturn, 1) := by decide +kernel
theorem dL_1268 : decode code 1268 = .ok (.aload_n 1, 1) := by decide +kernel
theorem dL_1269 : decode code 1269 = .ok (.aload_n 0, 1) := by decide +kernel
theorem dL_1270 : decode code 1270 = .ok (.iload_n 3, 1) := by decide +kernel
theorem dL_1271 : decode code 1271 = .ok (.iconst 1, 1) := by decide +kernel
theorem dL_1272 : decode code 1272 = .ok (.iadd, 1) := by decide +kernel
theorem dL_1273 : decode code 1273 = .ok (.iaload, 1) := by decide +kernel
theorem dL_1274 : decode code 1274 = .ok (.aload_n 0, 1) := by decide +kernel
theorem dL_1275 : decode code 1275 = .ok (.iload_n 3, 1) := by decide +kernel
theorem dL_1276 : decode code 1276 = .ok (.iconst 2, 1) := by decide +kernel
theorem dL_1277 : decode code 1277 = .ok (.iadd, 1) := by decide +kernel
theorem dL_1278 : decode code 1278 = .ok (.iaload, 1) := by decide +kernel
theorem dL_1279 : decode code 1279 = .ok (.aload_n 0, 1) := by decide +kernel
theorem dL_1280 : decode code 1280 = .ok (.iload_n 3, 1) := by decide +kernel
theorem dL_1281 : decode code 1281 = .ok (.iconst 3, 1) := by decide +kernel
theorem dL_1282 : decode code 1282 = .ok (.iadd, 1) := by decide +kernel
theorem dL_1283 : decode code 1283 = .ok (.iaload, 1) := by decide +kernel
theorem dL_1284 : decode code 1284 = .ok (.invokevirtual 161, 3) := by decide +kernel
theorem dL_1287 : decode code 1287 = .ok (.aload_n 2, 1) := by decide +kernel
theorem dL_1288 : decode code 1288 = .ok (.aload_n 0, 1) := by decide +kernel
theorem dL_1289 : decode code 1289 = .ok (.iload_n 3, 1) := by decide +kernel
theorem dL_1290 : decode code 1290 = .ok (.iconst 1, 1) := by decide +kernel
theorem dL_1291 : decode code 1291 = .ok (.iadd, 1) := by decide +kernel
theorem dL_1292 : decode code 1292 = .ok (.iaload, 1) := by decide +kernel
theorem dL_1293 : decode code 1293 = .ok (.aload_n 0, 1) := by decide +kernel
theorem dL_1294 : decode code 1294 = .ok (.iload_n 3, 1) := by decide +kernel
theorem dL_1295 : decode code 1295 = .ok (.iconst 2, 1) := by decide +kernel
theorem dL_1296 : decode code 1296 = .ok (.iadd, 1) := by decide +kernel
theorem dL_1297 : decode code 1297 = .ok (.iaload, 1) := by decide +kernel
theorem dL_1298 : decode code 1298 = .ok (.aload_n 0, 1) := by decide +kernel
theorem dL_1299 : decode code 1299 = .ok (.iload_n 3, 1) := by decide +kernel
theorem dL_1300 : decode code 1300 = .ok (.iconst 3, 1) := by decide +kernel
theorem dL_1301 : decode code 1301 = .ok (.iadd, 1) := by decide +kernel
theorem dL_1302 : decode code 1302 = .ok (.iaload, 1) := by decide +kernel
theorem dL_1303 : decode code 1303 = .ok (.invokevirtual 164, 3) := by decide +kernel
theorem dL_1306 : decode code 1306 = .ok (.if_icmp .eq 138, 3) := by decide +kernel
theorem dL_1309 : decode code 1309 = .ok (.iconst 0, 1) := by decide +kernel
theorem dL_1310 : decode code 1310 = .ok (.ireturn, 1) := by decide +kernel
theorem dL_1311 : decode code 1311 = .ok (.aload_n 1, 1) := by decide +kernel
theorem dL_1312 : decode code 1312 = .ok (.aload_n 0, 1) := by decide +kernel
theorem dL_1313 : decode code 1313 = .ok (.iload_n 3, 1) := by decide +kernel
theorem dL_1314 : decode code 1314 = .ok (.iconst 1, 1) := by decide +kernel
theorem dL_1315 : decode code 1315 = .ok (.iadd, 1) := by decide +kernel
theorem dL_1316 : decode code 1316 = .ok (.iaload, 1) := by decide +kernel
theorem dL_1317 : decode code 1317 = .ok (.aload_n 0, 1) := by decide +kernel
theorem dL_1318 : decode code 1318 = .ok (.iload_n 3, 1) := by decide +kernel
theorem dL_1319 : decode code 1319 = .ok (.iconst 2, 1) := by decide +kernel
theorem dL_1320 : decode code 1320 = .ok (.iadd, 1) := by decide +kernel
theorem dL_1321 : decode code 1321 = .ok (.iaload, 1) := by decide +kernel
theorem dL_1322 : decode code 1322 = .ok (.aload_n 0, 1) := by decide +kernel
theorem dL_1323 : decode code 1323 = .ok (.iload_n 3, 1) := by decide +kernel
theorem dL_1324 : decode code 1324 = .ok (.iconst 3, 1) := by decide +kernel
theorem dL_1325 : decode code 1325 = .ok (.iadd, 1) := by decide +kernel
theorem dL_1326 : decode code 1326 = .ok (.iaload, 1) := by decide +kernel
theorem dL_1327 : decode code 1327 = .ok (.aload_n 0, 1) := by decide +kernel
theorem dL_1328 : decode code 1328 = .ok (.iload_n 3, 1) := by decide +kernel
theorem dL_1329 : decode code 1329 = .ok (.iconst 4, 1) := by decide +kernel
theorem dL_1330 : decode code 1330 = .ok (.iadd, 1) := by decide +kernel
theorem dL_1331 : decode code 1331 = .ok (.iaload, 1) := by decide +kernel
theorem dL_1332 : decode code 1332 = .ok (.aload_n 0, 1) := by decide +kernel
theorem dL_1333 : decode code 1333 = .ok (.iload_n 3, 1) := by decide +kernel
theorem dL_1334 : decode code 1334 = .ok (.iconst 5, 1) := by decide +kernel
theorem dL_1335 : decode code 1335 = .ok (.iadd, 1) := by decide +kernel
theorem dL_1336 : decode code 1336 = .ok (.iaload, 1) := by decide +kernel
theorem dL_1337 : decode code 1337 = .ok (.invokevirtual 165, 3) := by decide +kernel
theorem dL_1340 : decode code 1340 = .ok (.aload_n 2, 1) := by decide +kernel
theorem dL_1341 : decode code 1341 = .ok (.aload_n 0, 1) := by decide +kernel
theorem dL_1342 : decode code 1342 = .ok (.iload_n 3, 1) := by decide +kernel
theorem dL_1343 : decode code 1343 = .ok (.iconst 1, 1) := by decide +kernel
theorem dL_1344 : decode code 1344 = .ok (.iadd, 1) := by decide +kernel
theorem dL_1345 : decode code 1345 = .ok (.iaload, 1) := by decide +kernel
theorem dL_1346 : decode code 1346 = .ok (.aload_n 0, 1) := by decide +kernel
theorem dL_1347 : decode code 1347 = .ok (.iload_n 3, 1) := by decide +kernel
theorem dL_1348 : decode code 1348 = .ok (.iconst 2, 1) := by decide +kernel
theorem dL_1349 : decode code 1349 = .ok (.iadd, 1) := by decide +kernel
theorem dL_1350 : decode code 1350 = .ok (.iaload, 1) := by decide +kernel
theorem dL_1351 : decode code 1351 = .ok (.aload_n 0, 1) := by decide +kernel
theorem dL_1352 : decode code 1352 = .ok (.iload_n 3, 1) := by decide +kernel
theorem dL_1353 : decode code 1353 = .ok (.iconst 3, 1) := by decide +kernel
theorem dL_1354 : decode code 1354 = .ok (.iadd, 1) := by decide +kernel
theorem dL_1355 : decode code 1355 = .ok (.iaload, 1) := by decide +kernel
theorem dL_1356 : decode code 1356 = .ok (.aload_n 0, 1) := by decide +kernel
theorem dL_1357 : decode code 1357 = .ok (.iload_n 3, 1) := by decide +kernel
theorem dL_1358 : decode code 1358 = .ok (.iconst 4, 1) := by decide +kernel
theorem dL_1359 : decode code 1359 = .ok (.iadd, 1) := by decide +kernel
theorem dL_1360 : decode code 1360 = .ok (.iaload, 1) := by decide +kernel
theorem dL_1361 : decode code 1361 = .ok (.aload_n 0, 1) := by decide +kernel
theorem dL_1362 : decode code 1362 = .ok (.iload_n 3, 1) := by decide +kernel
theorem dL_1363 : decode code 1363 = .ok (.iconst 5, 1) := by decide +kernel
theorem dL_1364 : decode code 1364 = .ok (.iadd, 1) := by decide +kernel
theorem dL_1365 : decode code 1365 = .ok (.iaload, 1) := by decide +kernel
theorem dL_1366 : decode code 1366 = .ok (.invokevirtual 169, 3) := by decide +kernel
theorem dL_1369 : decode code 1369 = .ok (.if_icmp .eq 75, 3) := by decide +kernel
theorem dL_1372 : decode code 1372 = .ok (.iconst 0, 1) := by decide +kernel
theorem dL_1373 : decode code 1373 = .ok (.ireturn, 1) := by decide +kernel
theorem dL_1374 : decode code 1374 = .ok (.aload_n 1, 1) := by decide +kernel
theorem dL_1375 : decode code 1375 = .ok (.aload_n 0, 1) := by decide +kernel
theorem dL_1376 : decode code 1376 = .ok (.iload_n 3, 1) := by decide +kernel
theorem dL_1377 : decode code 1377 = .ok (.iconst 1, 1) := by decide +kernel
theorem dL_1378 : decode code 1378 = .ok (.iadd, 1) := by decide +kernel
theorem dL_1379 : decode code 1379 = .ok (.iaload, 1) := by decide +kernel
theorem dL_1380 : decode code 1380 = .ok (.aload_n 0, 1) := by decide +kernel
theorem dL_1381 : decode code 1381 = .ok (.iload_n 3, 1) := by decide +kernel
theorem dL_1382 : decode code 1382 = .ok (.iconst 2, 1) := by decide +kernel
theorem dL_1383 : decode code 1383 = .ok (.iadd, 1) := by decide +kernel
theorem dL_1384 : decode code 1384 = .ok (.iaload, 1) := by decide +kernel
theorem dL_1385 : decode code 1385 = .ok (.invokevirtual 170, 3) := by decide +kernel
theorem dL_1388 : decode code 1388 = .ok (.aload_n 2, 1) := by decide +kernel
theorem dL_1389 : decode code 1389 = .ok (.aload_n 0, 1) := by decide +kernel
theorem dL_1390 : decode code 1390 = .ok (.iload_n 3, 1) := by decide +kernel
theorem dL_1391 : decode code 1391 = .ok (.iconst 1, 1) := by decide +kernel
theorem dL_1392 : decode code 1392 = .ok (.iadd, 1) := by decide +kernel
theorem dL_1393 : decode code 1393 = .ok (.iaload, 1) := by decide +kernel
theorem dL_1394 : decode code 1394 = .ok (.aload_n 0, 1) := by decide +kernel
theorem dL_1395 : decode code 1395 = .ok (.iload_n 3, 1) := by decide +kernel
theorem dL_1396 : decode code 1396 = .ok (.iconst 2, 1) := by decide +kernel
theorem dL_1397 : decode code 1397 = .ok (.iadd, 1) := by decide +kernel
theorem dL_1398 : decode code 1398 = .ok (.iaload, 1) := by decide +kernel
theorem dL_1399 : decode code 1399 = .ok (.invokevirtual 173, 3) := by decide +kernel
theorem dL_1402 : decode code 1402 = .ok (.if_icmp .eq 42, 3) := by decide +kernel
theorem dL_1405 : decode code 1405 = .ok (.iconst 0, 1) := by decide +kernel
theorem dL_1406 : decode code 1406 = .ok (.ireturn, 1) := by decide +kernel
theorem dL_1407 : decode code 1407 = .ok (.aload_n 1, 1) := by decide +kernel
theorem dL_1408 : decode code 1408 = .ok (.aload_n 0, 1) := by decide +kernel
theorem dL_1409 : decode code 1409 = .ok (.iload_n 3, 1) := by decide +kernel
theorem dL_1410 : decode code 1410 = .ok (.iconst 1, 1) := by decide +kernel
theorem dL_1411 : decode code 1411 = .ok (.iadd, 1) := by decide +kernel
theorem dL_1412 : decode code 1412 = .ok (.iaload, 1) := by decide +kernel
theorem dL_1413 : decode code 1413 = .ok (.invokevirtual 174, 3) := by decide +kernel
theorem dL_1416 : decode code 1416 = .ok (.aload_n 2, 1) := by decide +kernel
theorem dL_1417 : decode code 1417 = .ok (.aload_n 0, 1) := by decide +kernel
theorem dL_1418 : decode code 1418 = .ok (.iload_n 3, 1) := by decide +kernel
theorem dL_1419 : decode code 1419 = .ok (.iconst 1, 1) := by decide +kernel
theorem dL_1420 : decode code 1420 = .ok (.iadd, 1) := by decide +kernel
theorem dL_1421 : decode code 1421 = .ok (.iaload, 1) := by decide +kernel
theorem dL_1422 : decode code 1422 = .ok (.invokevirtual 177, 3) := by decide +kernel
theorem dL_1425 : decode code 1425 = .ok (.if_icmp .eq 19, 3) := by decide +kernel
theorem dL_1428 : decode code 1428 = .ok (.iconst 0, 1) := by decide +kernel
theorem dL_1429 : decode code 1429 = .ok (.ireturn, 1) := by decide +kernel
theorem dL_1430 : decode code 1430 = .ok (.aload_n 1, 1) := by decide +kernel
theorem dL_1431 : decode code 1431 = .ok (.invokevirtual 178, 3) := by decide +kernel
theorem dL_1434 : decode code 1434 = .ok (.aload_n 2, 1) := by decide +kernel
theorem dL_1435 : decode code 1435 = .ok (.invokevirtual 182, 3) := by decide +kernel
theorem dL_1438 : decode code 1438 = .ok (.lcmp, 1) := by decide +kernel
theorem dL_1439 : decode code 1439 = .ok (.ifCond .eq 5, 3) := by decide +kernel
theorem dL_1442 : decode code 1442 = .ok (.iconst 0, 1) := by decide +kernel
theorem dL_1443 : decode code 1443 = .ok (.ireturn, 1) := by decide +kernel
theorem dL_1444 : decode code 1444 = .ok (.iinc 3 6, 3) := by decide +kernel
theorem dL_1447 : decode code 1447 = .ok (.goto (-1429), 3) := by decide +kernel
theorem dL_1450 : decode code 1450 = .ok (.iconst 1, 1) := by decide +kernel
theorem dL_1451 : decode code 1451 = .ok (.ireturn, 1) := by decide +kernel
set_option maxRecDepth 100000 in
theorem lk_13 : Cond.methodLink R_law 13 yX10_pass ∈ gt := gt_2 126 rfl rfl
set_option maxRecDepth 100000 in
theorem lk_17 : Cond.methodLink R_law 17 yX11_pass ∈ gt := gt_5 94 rfl rfl
set_option maxRecDepth 100000 in
theorem lk_18 : Cond.methodLink R_law 18 yX10_house ∈ gt := gt_2 130 rfl rfl
set_option maxRecDepth 100000 in
theorem lk_21 : Cond.methodLink R_law 21 yX11_house ∈ gt := gt_5 101 rfl rfl
set_option maxRecDepth 100000 in
theorem lk_22 : Cond.methodLink R_law 22 yX10_doubt ∈ gt := gt_2 138 rfl rfl
set_option maxRecDepth 100000 in
theorem lk_26 : Cond.methodLink R_law 26 yX11_doubt ∈ gt := gt_5 105 rfl rfl
set_option maxRecDepth 100000 in
theorem lk_27 : Cond.methodLink R_law 27 yX10_reading ∈ gt := gt_2 150 rfl rfl
set_option maxRecDepth 100000 in
theorem lk_31 : Cond.methodLink R_law 31 yX11_reading ∈ gt := gt_5 113 rfl rfl
set_option maxRecDepth 100000 in
theorem lk_32 : Cond.methodLink R_law 32 yX10_read ∈ gt := gt_2 213 rfl rfl
set_option maxRecDepth 100000 in
theorem lk_35 : Cond.methodLink R_law 35 yX11_read ∈ gt := gt_5 124 rfl rfl
set_option maxRecDepth 100000 in
theorem lk_36 : Cond.methodLink R_law 36 yX10_takeBack ∈ gt := gt_2 228 rfl rfl
set_option maxRecDepth 100000 in
theorem lk_39 : Cond.methodLink R_law 39 yX11_takeBack ∈ gt := gt_5 135 rfl rfl
set_option maxRecDepth 100000 in
theorem lk_40 : Cond.methodLink R_law 40 yX10_about ∈ gt := gt_2 236 rfl rfl
set_option maxRecDepth 100000 in
theorem lk_43 : Cond.methodLink R_law 43 yX11_about ∈ gt := gt_5 139 rfl rfl
set_option maxRecDepth 100000 in
theorem lk_44 : Cond.methodLink R_law 44 yX10_asOf ∈ gt := gt_3 1 rfl rfl
set_option maxRecDepth 100000 in
theorem lk_47 : Cond.methodLink R_law 47 yX11_asOf ∈ gt := gt_5 147 rfl rfl
set_option maxRecDepth 100000 in
theorem lk_48 : Cond.methodLink R_law 48 yX10_factor ∈ gt := gt_3 5 rfl rfl
set_option maxRecDepth 100000 in
theorem lk_51 : Cond.methodLink R_law 51 yX11_factor ∈ gt := gt_5 151 rfl rfl
set_option maxRecDepth 100000 in
theorem lk_52 : Cond.methodLink R_law 52 yX10_drift ∈ gt := gt_3 13 rfl rfl
set_option maxRecDepth 100000 in
theorem lk_55 : Cond.methodLink R_law 55 yX11_drift ∈ gt := gt_5 155 rfl rfl
set_option maxRecDepth 100000 in
theorem lk_56 : Cond.methodLink R_law 56 yX10_many ∈ gt := gt_3 19 rfl rfl
set_option maxRecDepth 100000 in
theorem lk_59 : Cond.methodLink R_law 59 yX11_many ∈ gt := gt_5 184 rfl rfl
set_option maxRecDepth 100000 in
theorem lk_60 : Cond.methodLink R_law 60 yX10_told ∈ gt := gt_3 23 rfl rfl
set_option maxRecDepth 100000 in
theorem lk_63 : Cond.methodLink R_law 63 yX11_told ∈ gt := gt_5 188 rfl rfl
set_option maxRecDepth 100000 in
theorem lk_64 : Cond.methodLink R_law 64 yX10_agree ∈ gt := gt_3 32 rfl rfl
set_option maxRecDepth 100000 in
theorem lk_68 : Cond.methodLink R_law 68 yX11_agree ∈ gt := gt_5 205 rfl rfl
set_option maxRecDepth 100000 in
theorem lk_69 : Cond.methodLink R_law 69 yX10_agreeing ∈ gt := gt_3 45 rfl rfl
set_option maxRecDepth 100000 in
theorem lk_72 : Cond.methodLink R_law 72 yX11_agreeing ∈ gt := gt_5 217 rfl rfl
set_option maxRecDepth 100000 in
theorem lk_73 : Cond.methodLink R_law 73 yX10_common ∈ gt := gt_3 72 rfl rfl
set_option maxRecDepth 100000 in
theorem lk_76 : Cond.methodLink R_law 76 yX11_common ∈ gt := gt_5 228 rfl rfl
set_option maxRecDepth 100000 in
theorem lk_77 : Cond.methodLink R_law 77 yX10_chain ∈ gt := gt_3 92 rfl rfl
set_option maxRecDepth 100000 in
theorem lk_80 : Cond.methodLink R_law 80 yX11_chain ∈ gt := gt_5 239 rfl rfl
set_option maxRecDepth 100000 in
theorem lk_81 : Cond.methodLink R_law 81 yX10_via ∈ gt := gt_3 115 rfl rfl
set_option maxRecDepth 100000 in
theorem lk_84 : Cond.methodLink R_law 84 yX11_via ∈ gt := gt_6 16 rfl rfl
set_option maxRecDepth 100000 in
theorem lk_85 : Cond.methodLink R_law 85 yX10_number ∈ gt := gt_3 123 rfl rfl
set_option maxRecDepth 100000 in
theorem lk_89 : Cond.methodLink R_law 89 yX11_number ∈ gt := gt_6 20 rfl rfl
set_option maxRecDepth 100000 in
theorem lk_90 : Cond.methodLink R_law 90 yX10_mark ∈ gt := gt_3 200 rfl rfl
set_option maxRecDepth 100000 in
theorem lk_93 : Cond.methodLink R_law 93 yX11_mark ∈ gt := gt_6 71 rfl rfl
set_option maxRecDepth 100000 in
theorem lk_94 : Cond.methodLink R_law 94 yX10_judged ∈ gt := gt_3 209 rfl rfl
set_option maxRecDepth 100000 in
theorem lk_97 : Cond.methodLink R_law 97 yX11_judged ∈ gt := gt_6 80 rfl rfl
set_option maxRecDepth 100000 in
theorem lk_98 : Cond.methodLink R_law 98 yX10_run ∈ gt := gt_3 214 rfl rfl
set_option maxRecDepth 100000 in
theorem lk_101 : Cond.methodLink R_law 101 yX11_run ∈ gt := gt_6 86 rfl rfl
set_option maxRecDepth 100000 in
theorem lk_102 : Cond.methodLink R_law 102 yX10_within ∈ gt := gt_3 229 rfl rfl
set_option maxRecDepth 100000 in
theorem lk_105 : Cond.methodLink R_law 105 yX11_within ∈ gt := gt_6 90 rfl rfl
set_option maxRecDepth 100000 in
theorem lk_106 : Cond.methodLink R_law 106 yX10_widest ∈ gt := gt_4 11 rfl rfl
set_option maxRecDepth 100000 in
theorem lk_109 : Cond.methodLink R_law 109 yX11_widest ∈ gt := gt_6 110 rfl rfl
set_option maxRecDepth 100000 in
theorem lk_110 : Cond.methodLink R_law 110 yX10_share ∈ gt := gt_4 25 rfl rfl
set_option maxRecDepth 100000 in
theorem lk_114 : Cond.methodLink R_law 114 yX11_share ∈ gt := gt_6 118 rfl rfl
set_option maxRecDepth 100000 in
theorem lk_115 : Cond.methodLink R_law 115 yX10_parts ∈ gt := gt_4 35 rfl rfl
set_option maxRecDepth 100000 in
theorem lk_118 : Cond.methodLink R_law 118 yX11_parts ∈ gt := gt_6 123 rfl rfl
set_option maxRecDepth 100000 in
theorem lk_119 : Cond.methodLink R_law 119 yX10_ways ∈ gt := gt_4 50 rfl rfl
set_option maxRecDepth 100000 in
theorem lk_122 : Cond.methodLink R_law 122 yX11_ways ∈ gt := gt_6 136 rfl rfl
set_option maxRecDepth 100000 in
theorem lk_123 : Cond.methodLink R_law 123 yX10_score ∈ gt := gt_4 71 rfl rfl
set_option maxRecDepth 100000 in
theorem lk_127 : Cond.methodLink R_law 127 yX11_score ∈ gt := gt_6 127 rfl rfl
set_option maxRecDepth 100000 in
theorem lk_128 : Cond.methodLink R_law 128 yX10_type ∈ gt := gt_4 75 rfl rfl
set_option maxRecDepth 100000 in
theorem lk_131 : Cond.methodLink R_law 131 yX11_type ∈ gt := gt_6 148 rfl rfl
set_option maxRecDepth 100000 in
theorem lk_132 : Cond.methodLink R_law 132 yX10_wipe ∈ gt := gt_4 83 rfl rfl
set_option maxRecDepth 100000 in
theorem lk_136 : Cond.methodLink R_law 136 yX11_wipe ∈ gt := gt_6 152 rfl rfl
set_option maxRecDepth 100000 in
theorem lk_137 : Cond.methodLink R_law 137 yX10_fault ∈ gt := gt_4 87 rfl rfl
set_option maxRecDepth 100000 in
theorem lk_140 : Cond.methodLink R_law 140 yX11_fault ∈ gt := gt_6 156 rfl rfl
set_option maxRecDepth 100000 in
theorem lk_141 : Cond.methodLink R_law 141 yX10_reckon ∈ gt := gt_4 111 rfl rfl
set_option maxRecDepth 100000 in
theorem lk_144 : Cond.methodLink R_law 144 yX11_reckon ∈ gt := gt_6 178 rfl rfl
set_option maxRecDepth 100000 in
theorem lk_145 : Cond.methodLink R_law 145 yX10_claim ∈ gt := gt_4 119 rfl rfl
set_option maxRecDepth 100000 in
theorem lk_148 : Cond.methodLink R_law 148 yX11_claim ∈ gt := gt_6 186 rfl rfl
set_option maxRecDepth 100000 in
theorem lk_149 : Cond.methodLink R_law 149 yX10_sheet ∈ gt := gt_4 123 rfl rfl
set_option maxRecDepth 100000 in
theorem lk_152 : Cond.methodLink R_law 152 yX11_sheet ∈ gt := gt_6 190 rfl rfl
set_option maxRecDepth 100000 in
theorem lk_153 : Cond.methodLink R_law 153 yX10_lose ∈ gt := gt_4 134 rfl rfl
set_option maxRecDepth 100000 in
theorem lk_156 : Cond.methodLink R_law 156 yX11_lose ∈ gt := gt_6 194 rfl rfl
set_option maxRecDepth 100000 in
theorem lk_157 : Cond.methodLink R_law 157 yX10_put ∈ gt := gt_4 138 rfl rfl
set_option maxRecDepth 100000 in
theorem lk_160 : Cond.methodLink R_law 160 yX11_put ∈ gt := gt_6 198 rfl rfl
set_option maxRecDepth 100000 in
theorem lk_161 : Cond.methodLink R_law 161 yX10_get ∈ gt := gt_4 151 rfl rfl
set_option maxRecDepth 100000 in
theorem lk_164 : Cond.methodLink R_law 164 yX11_get ∈ gt := gt_6 210 rfl rfl
set_option maxRecDepth 100000 in
theorem lk_165 : Cond.methodLink R_law 165 yX10_copy ∈ gt := gt_4 155 rfl rfl
set_option maxRecDepth 100000 in
theorem lk_169 : Cond.methodLink R_law 169 yX11_copy ∈ gt := gt_6 214 rfl rfl
set_option maxRecDepth 100000 in
theorem lk_170 : Cond.methodLink R_law 170 yX10_write ∈ gt := gt_4 166 rfl rfl
set_option maxRecDepth 100000 in
theorem lk_173 : Cond.methodLink R_law 173 yX11_write ∈ gt := gt_6 218 rfl rfl
set_option maxRecDepth 100000 in
theorem lk_174 : Cond.methodLink R_law 174 yX10_count ∈ gt := gt_4 173 rfl rfl
set_option maxRecDepth 100000 in
theorem lk_177 : Cond.methodLink R_law 177 yX11_count ∈ gt := gt_6 222 rfl rfl
set_option maxRecDepth 100000 in
theorem lk_178 : Cond.methodLink R_law 178 yX10_digest ∈ gt := gt_4 183 rfl rfl
set_option maxRecDepth 100000 in
theorem lk_182 : Cond.methodLink R_law 182 yX11_digest ∈ gt := gt_6 230 rfl rfl
