/-! THE LAW, instruction by instruction (written by wip/gen/law.py) -/
theorem dl_0 : decode code 0 = .ok (.new 8, 3) := by decide +kernel
theorem dl_3 : decode code 3 = .ok (.dup, 1) := by decide +kernel
theorem dl_4 : decode code 4 = .ok (.invokespecial 15, 3) := by decide +kernel
theorem dl_7 : decode code 7 = .ok (.astore_n 1, 1) := by decide +kernel
theorem dl_8 : decode code 8 = .ok (.new 16, 3) := by decide +kernel
theorem dl_11 : decode code 11 = .ok (.dup, 1) := by decide +kernel
theorem dl_12 : decode code 12 = .ok (.invokespecial 18, 3) := by decide +kernel
theorem dl_15 : decode code 15 = .ok (.astore_n 2, 1) := by decide +kernel
theorem dl_16 : decode code 16 = .ok (.iconst 1, 1) := by decide +kernel
theorem dl_17 : decode code 17 = .ok (.newarray .long, 2) := by decide +kernel
theorem dl_19 : decode code 19 = .ok (.astore_n 3, 1) := by decide +kernel
theorem dl_20 : decode code 20 = .ok (.iconst 0, 1) := by decide +kernel
theorem dl_21 : decode code 21 = .ok (.istore 4, 2) := by decide +kernel
theorem dl_23 : decode code 23 = .ok (.iload 4, 2) := by decide +kernel
theorem dl_25 : decode code 25 = .ok (.aload_n 0, 1) := by decide +kernel
theorem dl_26 : decode code 26 = .ok (.arraylength, 1) := by decide +kernel
theorem dl_27 : decode code 27 = .ok (.bipush 6, 2) := by decide +kernel
theorem dl_29 : decode code 29 = .ok (.isub, 1) := by decide +kernel
theorem dl_30 : decode code 30 = .ok (.if_icmp .gt 1513, 3) := by decide +kernel
theorem dl_33 : decode code 33 = .ok (.aload_n 0, 1) := by decide +kernel
theorem dl_34 : decode code 34 = .ok (.iload 4, 2) := by decide +kernel
theorem dl_36 : decode code 36 = .ok (.iaload, 1) := by decide +kernel
theorem dl_37 : decode code 37 = .ok (.bipush 63, 2) := by decide +kernel
theorem dl_39 : decode code 39 = .ok (.iand, 1) := by decide +kernel
theorem dl_40 : decode code 40 = .ok (.tableswitch 1497 0 33 #[152, 189, 238, 275, 324, 361, 386, 423, 460, 525, 574, 611, 664, 701, 738, 811, 836, 873, 886, 947, 1020, 1069, 1094, 1131, 1168, 1181, 1218, 1279, 1304, 1317, 1354, 1367, 1435, 1472], 152) := by decide +kernel
theorem dl_192 : decode code 192 = .ok (.aload_n 1, 1) := by decide +kernel
theorem dl_193 : decode code 193 = .ok (.aload_n 0, 1) := by decide +kernel
theorem dl_194 : decode code 194 = .ok (.iload 4, 2) := by decide +kernel
theorem dl_196 : decode code 196 = .ok (.iconst 1, 1) := by decide +kernel
theorem dl_197 : decode code 197 = .ok (.iadd, 1) := by decide +kernel
theorem dl_198 : decode code 198 = .ok (.iaload, 1) := by decide +kernel
theorem dl_199 : decode code 199 = .ok (.aload_n 0, 1) := by decide +kernel
theorem dl_200 : decode code 200 = .ok (.iload 4, 2) := by decide +kernel
theorem dl_202 : decode code 202 = .ok (.iconst 2, 1) := by decide +kernel
theorem dl_203 : decode code 203 = .ok (.iadd, 1) := by decide +kernel
theorem dl_204 : decode code 204 = .ok (.iaload, 1) := by decide +kernel
theorem dl_205 : decode code 205 = .ok (.invokevirtual 19, 3) := by decide +kernel
theorem dl_208 : decode code 208 = .ok (.aload_n 2, 1) := by decide +kernel
theorem dl_209 : decode code 209 = .ok (.aload_n 0, 1) := by decide +kernel
theorem dl_210 : decode code 210 = .ok (.iload 4, 2) := by decide +kernel
theorem dl_212 : decode code 212 = .ok (.iconst 1, 1) := by decide +kernel
theorem dl_213 : decode code 213 = .ok (.iadd, 1) := by decide +kernel
theorem dl_214 : decode code 214 = .ok (.iaload, 1) := by decide +kernel
theorem dl_215 : decode code 215 = .ok (.aload_n 0, 1) := by decide +kernel
theorem dl_216 : decode code 216 = .ok (.iload 4, 2) := by decide +kernel
theorem dl_218 : decode code 218 = .ok (.iconst 2, 1) := by decide +kernel
theorem dl_219 : decode code 219 = .ok (.iadd, 1) := by decide +kernel
theorem dl_220 : decode code 220 = .ok (.iaload, 1) := by decide +kernel
theorem dl_221 : decode code 221 = .ok (.invokevirtual 23, 3) := by decide +kernel
theorem dl_224 : decode code 224 = .ok (.if_icmp .eq 1313, 3) := by decide +kernel
theorem dl_227 : decode code 227 = .ok (.iconst 0, 1) := by decide +kernel
theorem dl_228 : decode code 228 = .ok (.ireturn, 1) := by decide +kernel
theorem dl_229 : decode code 229 = .ok (.aload_n 1, 1) := by decide +kernel
theorem dl_230 : decode code 230 = .ok (.aload_n 0, 1) := by decide +kernel
theorem dl_231 : decode code 231 = .ok (.iload 4, 2) := by decide +kernel
theorem dl_233 : decode code 233 = .ok (.iconst 1, 1) := by decide +kernel
theorem dl_234 : decode code 234 = .ok (.iadd, 1) := by decide +kernel
theorem dl_235 : decode code 235 = .ok (.iaload, 1) := by decide +kernel
theorem dl_236 : decode code 236 = .ok (.aload_n 0, 1) := by decide +kernel
theorem dl_237 : decode code 237 = .ok (.iload 4, 2) := by decide +kernel
theorem dl_239 : decode code 239 = .ok (.iconst 2, 1) := by decide +kernel
theorem dl_240 : decode code 240 = .ok (.iadd, 1) := by decide +kernel
theorem dl_241 : decode code 241 = .ok (.iaload, 1) := by decide +kernel
theorem dl_242 : decode code 242 = .ok (.aload_n 0, 1) := by decide +kernel
theorem dl_243 : decode code 243 = .ok (.iload 4, 2) := by decide +kernel
theorem dl_245 : decode code 245 = .ok (.iconst 3, 1) := by decide +kernel
theorem dl_246 : decode code 246 = .ok (.iadd, 1) := by decide +kernel
theorem dl_247 : decode code 247 = .ok (.iaload, 1) := by decide +kernel
theorem dl_248 : decode code 248 = .ok (.invokevirtual 24, 3) := by decide +kernel
theorem dl_251 : decode code 251 = .ok (.aload_n 2, 1) := by decide +kernel
theorem dl_252 : decode code 252 = .ok (.aload_n 0, 1) := by decide +kernel
theorem dl_253 : decode code 253 = .ok (.iload 4, 2) := by decide +kernel
theorem dl_255 : decode code 255 = .ok (.iconst 1, 1) := by decide +kernel
theorem dl_256 : decode code 256 = .ok (.iadd, 1) := by decide +kernel
theorem dl_257 : decode code 257 = .ok (.iaload, 1) := by decide +kernel
theorem dl_258 : decode code 258 = .ok (.aload_n 0, 1) := by decide +kernel
theorem dl_259 : decode code 259 = .ok (.iload 4, 2) := by decide +kernel
theorem dl_261 : decode code 261 = .ok (.iconst 2, 1) := by decide +kernel
theorem dl_262 : decode code 262 = .ok (.iadd, 1) := by decide +kernel
theorem dl_263 : decode code 263 = .ok (.iaload, 1) := by decide +kernel
theorem dl_264 : decode code 264 = .ok (.aload_n 0, 1) := by decide +kernel
theorem dl_265 : decode code 265 = .ok (.iload 4, 2) := by decide +kernel
theorem dl_267 : decode code 267 = .ok (.iconst 3, 1) := by decide +kernel
theorem dl_268 : decode code 268 = .ok (.iadd, 1) := by decide +kernel
theorem dl_269 : decode code 269 = .ok (.iaload, 1) := by decide +kernel
theorem dl_270 : decode code 270 = .ok (.invokevirtual 28, 3) := by decide +kernel
theorem dl_273 : decode code 273 = .ok (.if_icmp .eq 1264, 3) := by decide +kernel
theorem dl_276 : decode code 276 = .ok (.iconst 0, 1) := by decide +kernel
theorem dl_277 : decode code 277 = .ok (.ireturn, 1) := by decide +kernel
theorem dl_278 : decode code 278 = .ok (.aload_n 1, 1) := by decide +kernel
theorem dl_279 : decode code 279 = .ok (.aload_n 0, 1) := by decide +kernel
theorem dl_280 : decode code 280 = .ok (.iload 4, 2) := by decide +kernel
theorem dl_282 : decode code 282 = .ok (.iconst 1, 1) := by decide +kernel
theorem dl_283 : decode code 283 = .ok (.iadd, 1) := by decide +kernel
theorem dl_284 : decode code 284 = .ok (.iaload, 1) := by decide +kernel
theorem dl_285 : decode code 285 = .ok (.aload_n 0, 1) := by decide +kernel
theorem dl_286 : decode code 286 = .ok (.iload 4, 2) := by decide +kernel
theorem dl_288 : decode code 288 = .ok (.iconst 2, 1) := by decide +kernel
theorem dl_289 : decode code 289 = .ok (.iadd, 1) := by decide +kernel
theorem dl_290 : decode code 290 = .ok (.iaload, 1) := by decide +kernel
theorem dl_291 : decode code 291 = .ok (.invokevirtual 29, 3) := by decide +kernel
theorem dl_294 : decode code 294 = .ok (.aload_n 2, 1) := by decide +kernel
theorem dl_295 : decode code 295 = .ok (.aload_n 0, 1) := by decide +kernel
theorem dl_296 : decode code 296 = .ok (.iload 4, 2) := by decide +kernel
theorem dl_298 : decode code 298 = .ok (.iconst 1, 1) := by decide +kernel
theorem dl_299 : decode code 299 = .ok (.iadd, 1) := by decide +kernel
theorem dl_300 : decode code 300 = .ok (.iaload, 1) := by decide +kernel
theorem dl_301 : decode code 301 = .ok (.aload_n 0, 1) := by decide +kernel
theorem dl_302 : decode code 302 = .ok (.iload 4, 2) := by decide +kernel
theorem dl_304 : decode code 304 = .ok (.iconst 2, 1) := by decide +kernel
theorem dl_305 : decode code 305 = .ok (.iadd, 1) := by decide +kernel
theorem dl_306 : decode code 306 = .ok (.iaload, 1) := by decide +kernel
theorem dl_307 : decode code 307 = .ok (.invokevirtual 32, 3) := by decide +kernel
theorem dl_310 : decode code 310 = .ok (.if_icmp .eq 1227, 3) := by decide +kernel
theorem dl_313 : decode code 313 = .ok (.iconst 0, 1) := by decide +kernel
theorem dl_314 : decode code 314 = .ok (.ireturn, 1) := by decide +kernel
theorem dl_315 : decode code 315 = .ok (.aload_n 1, 1) := by decide +kernel
theorem dl_316 : decode code 316 = .ok (.aload_n 0, 1) := by decide +kernel
theorem dl_317 : decode code 317 = .ok (.iload 4, 2) := by decide +kernel
theorem dl_319 : decode code 319 = .ok (.iconst 1, 1) := by decide +kernel
theorem dl_320 : decode code 320 = .ok (.iadd, 1) := by decide +kernel
theorem dl_321 : decode code 321 = .ok (.iaload, 1) := by decide +kernel
theorem dl_322 : decode code 322 = .ok (.aload_n 0, 1) := by decide +kernel
theorem dl_323 : decode code 323 = .ok (.iload 4, 2) := by decide +kernel
theorem dl_325 : decode code 325 = .ok (.iconst 2, 1) := by decide +kernel
theorem dl_326 : decode code 326 = .ok (.iadd, 1) := by decide +kernel
theorem dl_327 : decode code 327 = .ok (.iaload, 1) := by decide +kernel
theorem dl_328 : decode code 328 = .ok (.aload_n 0, 1) := by decide +kernel
theorem dl_329 : decode code 329 = .ok (.iload 4, 2) := by decide +kernel
theorem dl_331 : decode code 331 = .ok (.iconst 3, 1) := by decide +kernel
theorem dl_332 : decode code 332 = .ok (.iadd, 1) := by decide +kernel
theorem dl_333 : decode code 333 = .ok (.iaload, 1) := by decide +kernel
theorem dl_334 : decode code 334 = .ok (.invokevirtual 33, 3) := by decide +kernel
theorem dl_337 : decode code 337 = .ok (.aload_n 2, 1) := by decide +kernel
theorem dl_338 : decode code 338 = .ok (.aload_n 0, 1) := by decide +kernel
theorem dl_339 : decode code 339 = .ok (.iload 4, 2) := by decide +kernel
theorem dl_341 : decode code 341 = .ok (.iconst 1, 1) := by decide +kernel
theorem dl_342 : decode code 342 = .ok (.iadd, 1) := by decide +kernel
theorem dl_343 : decode code 343 = .ok (.iaload, 1) := by decide +kernel
theorem dl_344 : decode code 344 = .ok (.aload_n 0, 1) := by decide +kernel
theorem dl_345 : decode code 345 = .ok (.iload 4, 2) := by decide +kernel
theorem dl_347 : decode code 347 = .ok (.iconst 2, 1) := by decide +kernel
theorem dl_348 : decode code 348 = .ok (.iadd, 1) := by decide +kernel
theorem dl_349 : decode code 349 = .ok (.iaload, 1) := by decide +kernel
theorem dl_350 : decode code 350 = .ok (.aload_n 0, 1) := by decide +kernel
theorem dl_351 : decode code 351 = .ok (.iload 4, 2) := by decide +kernel
theorem dl_353 : decode code 353 = .ok (.iconst 3, 1) := by decide +kernel
theorem dl_354 : decode code 354 = .ok (.iadd, 1) := by decide +kernel
theorem dl_355 : decode code 355 = .ok (.iaload, 1) := by decide +kernel
theorem dl_356 : decode code 356 = .ok (.invokevirtual 37, 3) := by decide +kernel
theorem dl_359 : decode code 359 = .ok (.if_icmp .eq 1178, 3) := by decide +kernel
theorem dl_362 : decode code 362 = .ok (.iconst 0, 1) := by decide +kernel
theorem dl_363 : decode code 363 = .ok (.ireturn, 1) := by decide +kernel
theorem dl_364 : decode code 364 = .ok (.aload_n 1, 1) := by decide +kernel
theorem dl_365 : decode code 365 = .ok (.aload_n 0, 1) := by decide +kernel
theorem dl_366 : decode code 366 = .ok (.iload 4, 2) := by decide +kernel
theorem dl_368 : decode code 368 = .ok (.iconst 1, 1) := by decide +kernel
theorem dl_369 : decode code 369 = .ok (.iadd, 1) := by decide +kernel
theorem dl_370 : decode code 370 = .ok (.iaload, 1) := by decide +kernel
theorem dl_371 : decode code 371 = .ok (.aload_n 0, 1) := by decide +kernel
theorem dl_372 : decode code 372 = .ok (.iload 4, 2) := by decide +kernel
theorem dl_374 : decode code 374 = .ok (.iconst 2, 1) := by decide +kernel
theorem dl_375 : decode code 375 = .ok (.iadd, 1) := by decide +kernel
theorem dl_376 : decode code 376 = .ok (.iaload, 1) := by decide +kernel
theorem dl_377 : decode code 377 = .ok (.invokevirtual 38, 3) := by decide +kernel
theorem dl_380 : decode code 380 = .ok (.aload_n 2, 1) := by decide +kernel
theorem dl_381 : decode code 381 = .ok (.aload_n 0, 1) := by decide +kernel
theorem dl_382 : decode code 382 = .ok (.iload 4, 2) := by decide +kernel
theorem dl_384 : decode code 384 = .ok (.iconst 1, 1) := by decide +kernel
theorem dl_385 : decode code 385 = .ok (.iadd, 1) := by decide +kernel
theorem dl_386 : decode code 386 = .ok (.iaload, 1) := by decide +kernel
theorem dl_387 : decode code 387 = .ok (.aload_n 0, 1) := by decide +kernel
theorem dl_388 : decode code 388 = .ok (.iload 4, 2) := by decide +kernel
theorem dl_390 : decode code 390 = .ok (.iconst 2, 1) := by decide +kernel
theorem dl_391 : decode code 391 = .ok (.iadd, 1) := by decide +kernel
theorem dl_392 : decode code 392 = .ok (.iaload, 1) := by decide +kernel
theorem dl_393 : decode code 393 = .ok (.invokevirtual 41, 3) := by decide +kernel
theorem dl_396 : decode code 396 = .ok (.if_icmp .eq 1141, 3) := by decide +kernel
theorem dl_399 : decode code 399 = .ok (.iconst 0, 1) := by decide +kernel
theorem dl_400 : decode code 400 = .ok (.ireturn, 1) := by decide +kernel
theorem dl_401 : decode code 401 = .ok (.aload_n 1, 1) := by decide +kernel
theorem dl_402 : decode code 402 = .ok (.aload_n 0, 1) := by decide +kernel
theorem dl_403 : decode code 403 = .ok (.iload 4, 2) := by decide +kernel
theorem dl_405 : decode code 405 = .ok (.iconst 1, 1) := by decide +kernel
theorem dl_406 : decode code 406 = .ok (.iadd, 1) := by decide +kernel
theorem dl_407 : decode code 407 = .ok (.iaload, 1) := by decide +kernel
theorem dl_408 : decode code 408 = .ok (.invokevirtual 42, 3) := by decide +kernel
theorem dl_411 : decode code 411 = .ok (.aload_n 2, 1) := by decide +kernel
theorem dl_412 : decode code 412 = .ok (.aload_n 0, 1) := by decide +kernel
theorem dl_413 : decode code 413 = .ok (.iload 4, 2) := by decide +kernel
theorem dl_415 : decode code 415 = .ok (.iconst 1, 1) := by decide +kernel
theorem dl_416 : decode code 416 = .ok (.iadd, 1) := by decide +kernel
theorem dl_417 : decode code 417 = .ok (.iaload, 1) := by decide +kernel
theorem dl_418 : decode code 418 = .ok (.invokevirtual 46, 3) := by decide +kernel
theorem dl_421 : decode code 421 = .ok (.if_icmp .eq 1116, 3) := by decide +kernel
theorem dl_424 : decode code 424 = .ok (.iconst 0, 1) := by decide +kernel
theorem dl_425 : decode code 425 = .ok (.ireturn, 1) := by decide +kernel
theorem dl_426 : decode code 426 = .ok (.aload_n 1, 1) := by decide +kernel
theorem dl_427 : decode code 427 = .ok (.aload_n 0, 1) := by decide +kernel
theorem dl_428 : decode code 428 = .ok (.iload 4, 2) := by decide +kernel
theorem dl_430 : decode code 430 = .ok (.iconst 1, 1) := by decide +kernel
theorem dl_431 : decode code 431 = .ok (.iadd, 1) := by decide +kernel
theorem dl_432 : decode code 432 = .ok (.iaload, 1) := by decide +kernel
theorem dl_433 : decode code 433 = .ok (.aload_n 0, 1) := by decide +kernel
theorem dl_434 : decode code 434 = .ok (.iload 4, 2) := by decide +kernel
theorem dl_436 : decode code 436 = .ok (.iconst 2, 1) := by decide +kernel
theorem dl_437 : decode code 437 = .ok (.iadd, 1) := by decide +kernel
theorem dl_438 : decode code 438 = .ok (.iaload, 1) := by decide +kernel
theorem dl_439 : decode code 439 = .ok (.invokevirtual 47, 3) := by decide +kernel
theorem dl_442 : decode code 442 = .ok (.aload_n 2, 1) := by decide +kernel
theorem dl_443 : decode code 443 = .ok (.aload_n 0, 1) := by decide +kernel
theorem dl_444 : decode code 444 = .ok (.iload 4, 2) := by decide +kernel
theorem dl_446 : decode code 446 = .ok (.iconst 1, 1) := by decide +kernel
theorem dl_447 : decode code 447 = .ok (.iadd, 1) := by decide +kernel
theorem dl_448 : decode code 448 = .ok (.iaload, 1) := by decide +kernel
theorem dl_449 : decode code 449 = .ok (.aload_n 0, 1) := by decide +kernel
theorem dl_450 : decode code 450 = .ok (.iload 4, 2) := by decide +kernel
theorem dl_452 : decode code 452 = .ok (.iconst 2, 1) := by decide +kernel
theorem dl_453 : decode code 453 = .ok (.iadd, 1) := by decide +kernel
theorem dl_454 : decode code 454 = .ok (.iaload, 1) := by decide +kernel
theorem dl_455 : decode code 455 = .ok (.invokevirtual 50, 3) := by decide +kernel
theorem dl_458 : decode code 458 = .ok (.if_icmp .eq 1079, 3) := by decide +kernel
theorem dl_461 : decode code 461 = .ok (.iconst 0, 1) := by decide +kernel
theorem dl_462 : decode code 462 = .ok (.ireturn, 1) := by decide +kernel
theorem dl_463 : decode code 463 = .ok (.aload_n 1, 1) := by decide +kernel
theorem dl_464 : decode code 464 = .ok (.aload_n 0, 1) := by decide +kernel
theorem dl_465 : decode code 465 = .ok (.iload 4, 2) := by decide +kernel
theorem dl_467 : decode code 467 = .ok (.iconst 1, 1) := by decide +kernel
theorem dl_468 : decode code 468 = .ok (.iadd, 1) := by decide +kernel
theorem dl_469 : decode code 469 = .ok (.iaload, 1) := by decide +kernel
theorem dl_470 : decode code 470 = .ok (.aload_n 0, 1) := by decide +kernel
theorem dl_471 : decode code 471 = .ok (.iload 4, 2) := by decide +kernel
theorem dl_473 : decode code 473 = .ok (.iconst 2, 1) := by decide +kernel
theorem dl_474 : decode code 474 = .ok (.iadd, 1) := by decide +kernel
theorem dl_475 : decode code 475 = .ok (.iaload, 1) := by decide +kernel
theorem dl_476 : decode code 476 = .ok (.invokevirtual 51, 3) := by decide +kernel
theorem dl_479 : decode code 479 = .ok (.aload_n 2, 1) := by decide +kernel
theorem dl_480 : decode code 480 = .ok (.aload_n 0, 1) := by decide +kernel
theorem dl_481 : decode code 481 = .ok (.iload 4, 2) := by decide +kernel
theorem dl_483 : decode code 483 = .ok (.iconst 1, 1) := by decide +kernel
theorem dl_484 : decode code 484 = .ok (.iadd, 1) := by decide +kernel
theorem dl_485 : decode code 485 = .ok (.iaload, 1) := by decide +kernel
theorem dl_486 : decode code 486 = .ok (.aload_n 0, 1) := by decide +kernel
theorem dl_487 : decode code 487 = .ok (.iload 4, 2) := by decide +kernel
theorem dl_489 : decode code 489 = .ok (.iconst 2, 1) := by decide +kernel
theorem dl_490 : decode code 490 = .ok (.iadd, 1) := by decide +kernel
theorem dl_491 : decode code 491 = .ok (.iaload, 1) := by decide +kernel
theorem dl_492 : decode code 492 = .ok (.invokevirtual 54, 3) := by decide +kernel
theorem dl_495 : decode code 495 = .ok (.if_icmp .eq 1042, 3) := by decide +kernel
theorem dl_498 : decode code 498 = .ok (.iconst 0, 1) := by decide +kernel
theorem dl_499 : decode code 499 = .ok (.ireturn, 1) := by decide +kernel
theorem dl_500 : decode code 500 = .ok (.aload_n 1, 1) := by decide +kernel
theorem dl_501 : decode code 501 = .ok (.aload_n 0, 1) := by decide +kernel
theorem dl_502 : decode code 502 = .ok (.iload 4, 2) := by decide +kernel
theorem dl_504 : decode code 504 = .ok (.iconst 1, 1) := by decide +kernel
theorem dl_505 : decode code 505 = .ok (.iadd, 1) := by decide +kernel
theorem dl_506 : decode code 506 = .ok (.iaload, 1) := by decide +kernel
theorem dl_507 : decode code 507 = .ok (.aload_n 0, 1) := by decide +kernel
theorem dl_508 : decode code 508 = .ok (.iload 4, 2) := by decide +kernel
theorem dl_510 : decode code 510 = .ok (.iconst 2, 1) := by decide +kernel
theorem dl_511 : decode code 511 = .ok (.iadd, 1) := by decide +kernel
theorem dl_512 : decode code 512 = .ok (.iaload, 1) := by decide +kernel
theorem dl_513 : decode code 513 = .ok (.aload_n 0, 1) := by decide +kernel
theorem dl_514 : decode code 514 = .ok (.iload 4, 2) := by decide +kernel
theorem dl_516 : decode code 516 = .ok (.iconst 3, 1) := by decide +kernel
theorem dl_517 : decode code 517 = .ok (.iadd, 1) := by decide +kernel
theorem dl_518 : decode code 518 = .ok (.iaload, 1) := by decide +kernel
theorem dl_519 : decode code 519 = .ok (.ifCond .eq 7, 3) := by decide +kernel
theorem dl_522 : decode code 522 = .ok (.iconst 1, 1) := by decide +kernel
theorem dl_523 : decode code 523 = .ok (.goto 4, 3) := by decide +kernel
theorem dl_526 : decode code 526 = .ok (.iconst 0, 1) := by decide +kernel
theorem dl_527 : decode code 527 = .ok (.invokevirtual 55, 3) := by decide +kernel
theorem dl_530 : decode code 530 = .ok (.aload_n 2, 1) := by decide +kernel
theorem dl_531 : decode code 531 = .ok (.aload_n 0, 1) := by decide +kernel
theorem dl_532 : decode code 532 = .ok (.iload 4, 2) := by decide +kernel
theorem dl_534 : decode code 534 = .ok (.iconst 1, 1) := by decide +kernel
theorem dl_535 : decode code 535 = .ok (.iadd, 1) := by decide +kernel
theorem dl_536 : decode code 536 = .ok (.iaload, 1) := by decide +kernel
theorem dl_537 : decode code 537 = .ok (.aload_n 0, 1) := by decide +kernel
theorem dl_538 : decode code 538 = .ok (.iload 4, 2) := by decide +kernel
theorem dl_540 : decode code 540 = .ok (.iconst 2, 1) := by decide +kernel
theorem dl_541 : decode code 541 = .ok (.iadd, 1) := by decide +kernel
theorem dl_542 : decode code 542 = .ok (.iaload, 1) := by decide +kernel
theorem dl_543 : decode code 543 = .ok (.aload_n 0, 1) := by decide +kernel
theorem dl_544 : decode code 544 = .ok (.iload 4, 2) := by decide +kernel
theorem dl_546 : decode code 546 = .ok (.iconst 3, 1) := by decide +kernel
theorem dl_547 : decode code 547 = .ok (.iadd, 1) := by decide +kernel
theorem dl_548 : decode code 548 = .ok (.iaload, 1) := by decide +kernel
theorem dl_549 : decode code 549 = .ok (.ifCond .eq 7, 3) := by decide +kernel
theorem dl_552 : decode code 552 = .ok (.iconst 1, 1) := by decide +kernel
theorem dl_553 : decode code 553 = .ok (.goto 4, 3) := by decide +kernel
theorem dl_556 : decode code 556 = .ok (.iconst 0, 1) := by decide +kernel
theorem dl_557 : decode code 557 = .ok (.invokevirtual 59, 3) := by decide +kernel
theorem dl_560 : decode code 560 = .ok (.if_icmp .eq 977, 3) := by decide +kernel
theorem dl_563 : decode code 563 = .ok (.iconst 0, 1) := by decide +kernel
theorem dl_564 : decode code 564 = .ok (.ireturn, 1) := by decide +kernel
theorem dl_565 : decode code 565 = .ok (.aload_n 1, 1) := by decide +kernel
theorem dl_566 : decode code 566 = .ok (.aload_n 0, 1) := by decide +kernel
theorem dl_567 : decode code 567 = .ok (.iload 4, 2) := by decide +kernel
theorem dl_569 : decode code 569 = .ok (.iconst 1, 1) := by decide +kernel
theorem dl_570 : decode code 570 = .ok (.iadd, 1) := by decide +kernel
theorem dl_571 : decode code 571 = .ok (.iaload, 1) := by decide +kernel
theorem dl_572 : decode code 572 = .ok (.aload_n 0, 1) := by decide +kernel
theorem dl_573 : decode code 573 = .ok (.iload 4, 2) := by decide +kernel
theorem dl_575 : decode code 575 = .ok (.iconst 2, 1) := by decide +kernel
theorem dl_576 : decode code 576 = .ok (.iadd, 1) := by decide +kernel
theorem dl_577 : decode code 577 = .ok (.iaload, 1) := by decide +kernel
theorem dl_578 : decode code 578 = .ok (.aload_n 0, 1) := by decide +kernel
theorem dl_579 : decode code 579 = .ok (.iload 4, 2) := by decide +kernel
theorem dl_581 : decode code 581 = .ok (.iconst 3, 1) := by decide +kernel
theorem dl_582 : decode code 582 = .ok (.iadd, 1) := by decide +kernel
theorem dl_583 : decode code 583 = .ok (.iaload, 1) := by decide +kernel
theorem dl_584 : decode code 584 = .ok (.invokevirtual 60, 3) := by decide +kernel
theorem dl_587 : decode code 587 = .ok (.aload_n 2, 1) := by decide +kernel
theorem dl_588 : decode code 588 = .ok (.aload_n 0, 1) := by decide +kernel
theorem dl_589 : decode code 589 = .ok (.iload 4, 2) := by decide +kernel
theorem dl_591 : decode code 591 = .ok (.iconst 1, 1) := by decide +kernel
theorem dl_592 : decode code 592 = .ok (.iadd, 1) := by decide +kernel
theorem dl_593 : decode code 593 = .ok (.iaload, 1) := by decide +kernel
theorem dl_594 : decode code 594 = .ok (.aload_n 0, 1) := by decide +kernel
theorem dl_595 : decode code 595 = .ok (.iload 4, 2) := by decide +kernel
theorem dl_597 : decode code 597 = .ok (.iconst 2, 1) := by decide +kernel
theorem dl_598 : decode code 598 = .ok (.iadd, 1) := by decide +kernel
theorem dl_599 : decode code 599 = .ok (.iaload, 1) := by decide +kernel
theorem dl_600 : decode code 600 = .ok (.aload_n 0, 1) := by decide +kernel
theorem dl_601 : decode code 601 = .ok (.iload 4, 2) := by decide +kernel
theorem dl_603 : decode code 603 = .ok (.iconst 3, 1) := by decide +kernel
theorem dl_604 : decode code 604 = .ok (.iadd, 1) := by decide +kernel
theorem dl_605 : decode code 605 = .ok (.iaload, 1) := by decide +kernel
theorem dl_606 : decode code 606 = .ok (.invokevirtual 63, 3) := by decide +kernel
theorem dl_609 : decode code 609 = .ok (.if_icmp .eq 928, 3) := by decide +kernel
theorem dl_612 : decode code 612 = .ok (.iconst 0, 1) := by decide +kernel
theorem dl_613 : decode code 613 = .ok (.ireturn, 1) := by decide +kernel
theorem dl_614 : decode code 614 = .ok (.aload_n 1, 1) := by decide +kernel
theorem dl_615 : decode code 615 = .ok (.aload_n 0, 1) := by decide +kernel
theorem dl_616 : decode code 616 = .ok (.iload 4, 2) := by decide +kernel
theorem dl_618 : decode code 618 = .ok (.iconst 1, 1) := by decide +kernel
theorem dl_619 : decode code 619 = .ok (.iadd, 1) := by decide +kernel
theorem dl_620 : decode code 620 = .ok (.iaload, 1) := by decide +kernel
theorem dl_621 : decode code 621 = .ok (.aload_n 0, 1) := by decide +kernel
theorem dl_622 : decode code 622 = .ok (.iload 4, 2) := by decide +kernel
theorem dl_624 : decode code 624 = .ok (.iconst 2, 1) := by decide +kernel
theorem dl_625 : decode code 625 = .ok (.iadd, 1) := by decide +kernel
theorem dl_626 : decode code 626 = .ok (.iaload, 1) := by decide +kernel
theorem dl_627 : decode code 627 = .ok (.invokevirtual 64, 3) := by decide +kernel
theorem dl_630 : decode code 630 = .ok (.aload_n 2, 1) := by decide +kernel
theorem dl_631 : decode code 631 = .ok (.aload_n 0, 1) := by decide +kernel
theorem dl_632 : decode code 632 = .ok (.iload 4, 2) := by decide +kernel
theorem dl_634 : decode code 634 = .ok (.iconst 1, 1) := by decide +kernel
theorem dl_635 : decode code 635 = .ok (.iadd, 1) := by decide +kernel
theorem dl_636 : decode code 636 = .ok (.iaload, 1) := by decide +kernel
theorem dl_637 : decode code 637 = .ok (.aload_n 0, 1) := by decide +kernel
theorem dl_638 : decode code 638 = .ok (.iload 4, 2) := by decide +kernel
theorem dl_640 : decode code 640 = .ok (.iconst 2, 1) := by decide +kernel
theorem dl_641 : decode code 641 = .ok (.iadd, 1) := by decide +kernel
theorem dl_642 : decode code 642 = .ok (.iaload, 1) := by decide +kernel
theorem dl_643 : decode code 643 = .ok (.invokevirtual 67, 3) := by decide +kernel
theorem dl_646 : decode code 646 = .ok (.if_icmp .eq 891, 3) := by decide +kernel
theorem dl_649 : decode code 649 = .ok (.iconst 0, 1) := by decide +kernel
theorem dl_650 : decode code 650 = .ok (.ireturn, 1) := by decide +kernel
theorem dl_651 : decode code 651 = .ok (.aload_n 1, 1) := by decide +kernel
theorem dl_652 : decode code 652 = .ok (.aload_n 0, 1) := by decide +kernel
theorem dl_653 : decode code 653 = .ok (.iload 4, 2) := by decide +kernel
theorem dl_655 : decode code 655 = .ok (.iconst 1, 1) := by decide +kernel
theorem dl_656 : decode code 656 = .ok (.iadd, 1) := by decide +kernel
theorem dl_657 : decode code 657 = .ok (.iaload, 1) := by decide +kernel
theorem dl_658 : decode code 658 = .ok (.aload_n 0, 1) := by decide +kernel
theorem dl_659 : decode code 659 = .ok (.iload 4, 2) := by decide +kernel
theorem dl_661 : decode code 661 = .ok (.iconst 2, 1) := by decide +kernel
theorem dl_662 : decode code 662 = .ok (.iadd, 1) := by decide +kernel
theorem dl_663 : decode code 663 = .ok (.iaload, 1) := by decide +kernel
theorem dl_664 : decode code 664 = .ok (.ifCond .eq 7, 3) := by decide +kernel
theorem dl_667 : decode code 667 = .ok (.iconst 1, 1) := by decide +kernel
theorem dl_668 : decode code 668 = .ok (.goto 4, 3) := by decide +kernel
theorem dl_671 : decode code 671 = .ok (.iconst 0, 1) := by decide +kernel
theorem dl_672 : decode code 672 = .ok (.invokevirtual 68, 3) := by decide +kernel
theorem dl_675 : decode code 675 = .ok (.aload_n 2, 1) := by decide +kernel
theorem dl_676 : decode code 676 = .ok (.aload_n 0, 1) := by decide +kernel
theorem dl_677 : decode code 677 = .ok (.iload 4, 2) := by decide +kernel
theorem dl_679 : decode code 679 = .ok (.iconst 1, 1) := by decide +kernel
theorem dl_680 : decode code 680 = .ok (.iadd, 1) := by decide +kernel
theorem dl_681 : decode code 681 = .ok (.iaload, 1) := by decide +kernel
theorem dl_682 : decode code 682 = .ok (.aload_n 0, 1) := by decide +kernel
theorem dl_683 : decode code 683 = .ok (.iload 4, 2) := by decide +kernel
theorem dl_685 : decode code 685 = .ok (.iconst 2, 1) := by decide +kernel
theorem dl_686 : decode code 686 = .ok (.iadd, 1) := by decide +kernel
theorem dl_687 : decode code 687 = .ok (.iaload, 1) := by decide +kernel
theorem dl_688 : decode code 688 = .ok (.ifCond .eq 7, 3) := by decide +kernel
theorem dl_691 : decode code 691 = .ok (.iconst 1, 1) := by decide +kernel
theorem dl_692 : decode code 692 = .ok (.goto 4, 3) := by decide +kernel
theorem dl_695 : decode code 695 = .ok (.iconst 0, 1) := by decide +kernel
theorem dl_696 : decode code 696 = .ok (.invokevirtual 72, 3) := by decide +kernel
theorem dl_699 : decode code 699 = .ok (.if_icmp .eq 838, 3) := by decide +kernel
theorem dl_702 : decode code 702 = .ok (.iconst 0, 1) := by decide +kernel
theorem dl_703 : decode code 703 = .ok (.ireturn, 1) := by decide +kernel
theorem dl_704 : decode code 704 = .ok (.aload_n 1, 1) := by decide +kernel
theorem dl_705 : decode code 705 = .ok (.aload_n 0, 1) := by decide +kernel
theorem dl_706 : decode code 706 = .ok (.iload 4, 2) := by decide +kernel
theorem dl_708 : decode code 708 = .ok (.iconst 1, 1) := by decide +kernel
theorem dl_709 : decode code 709 = .ok (.iadd, 1) := by decide +kernel
theorem dl_710 : decode code 710 = .ok (.iaload, 1) := by decide +kernel
theorem dl_711 : decode code 711 = .ok (.aload_n 0, 1) := by decide +kernel
theorem dl_712 : decode code 712 = .ok (.iload 4, 2) := by decide +kernel
theorem dl_714 : decode code 714 = .ok (.iconst 2, 1) := by decide +kernel
theorem dl_715 : decode code 715 = .ok (.iadd, 1) := by decide +kernel
theorem dl_716 : decode code 716 = .ok (.iaload, 1) := by decide +kernel
theorem dl_717 : decode code 717 = .ok (.invokevirtual 73, 3) := by decide +kernel
theorem dl_720 : decode code 720 = .ok (.aload_n 2, 1) := by decide +kernel
theorem dl_721 : decode code 721 = .ok (.aload_n 0, 1) := by decide +kernel
theorem dl_722 : decode code 722 = .ok (.iload 4, 2) := by decide +kernel
theorem dl_724 : decode code 724 = .ok (.iconst 1, 1) := by decide +kernel
theorem dl_725 : decode code 725 = .ok (.iadd, 1) := by decide +kernel
theorem dl_726 : decode code 726 = .ok (.iaload, 1) := by decide +kernel
theorem dl_727 : decode code 727 = .ok (.aload_n 0, 1) := by decide +kernel
theorem dl_728 : decode code 728 = .ok (.iload 4, 2) := by decide +kernel
theorem dl_730 : decode code 730 = .ok (.iconst 2, 1) := by decide +kernel
theorem dl_731 : decode code 731 = .ok (.iadd, 1) := by decide +kernel
theorem dl_732 : decode code 732 = .ok (.iaload, 1) := by decide +kernel
theorem dl_733 : decode code 733 = .ok (.invokevirtual 76, 3) := by decide +kernel
theorem dl_736 : decode code 736 = .ok (.if_icmp .eq 801, 3) := by decide +kernel
theorem dl_739 : decode code 739 = .ok (.iconst 0, 1) := by decide +kernel
theorem dl_740 : decode code 740 = .ok (.ireturn, 1) := by decide +kernel
theorem dl_741 : decode code 741 = .ok (.aload_n 1, 1) := by decide +kernel
theorem dl_742 : decode code 742 = .ok (.aload_n 0, 1) := by decide +kernel
theorem dl_743 : decode code 743 = .ok (.iload 4, 2) := by decide +kernel
theorem dl_745 : decode code 745 = .ok (.iconst 1, 1) := by decide +kernel
theorem dl_746 : decode code 746 = .ok (.iadd, 1) := by decide +kernel
theorem dl_747 : decode code 747 = .ok (.iaload, 1) := by decide +kernel
theorem dl_748 : decode code 748 = .ok (.aload_n 0, 1) := by decide +kernel
theorem dl_749 : decode code 749 = .ok (.iload 4, 2) := by decide +kernel
theorem dl_751 : decode code 751 = .ok (.iconst 2, 1) := by decide +kernel
theorem dl_752 : decode code 752 = .ok (.iadd, 1) := by decide +kernel
theorem dl_753 : decode code 753 = .ok (.iaload, 1) := by decide +kernel
theorem dl_754 : decode code 754 = .ok (.invokevirtual 77, 3) := by decide +kernel
theorem dl_757 : decode code 757 = .ok (.aload_n 2, 1) := by decide +kernel
theorem dl_758 : decode code 758 = .ok (.aload_n 0, 1) := by decide +kernel
theorem dl_759 : decode code 759 = .ok (.iload 4, 2) := by decide +kernel
theorem dl_761 : decode code 761 = .ok (.iconst 1, 1) := by decide +kernel
theorem dl_762 : decode code 762 = .ok (.iadd, 1) := by decide +kernel
theorem dl_763 : decode code 763 = .ok (.iaload, 1) := by decide +kernel
theorem dl_764 : decode code 764 = .ok (.aload_n 0, 1) := by decide +kernel
theorem dl_765 : decode code 765 = .ok (.iload 4, 2) := by decide +kernel
theorem dl_767 : decode code 767 = .ok (.iconst 2, 1) := by decide +kernel
theorem dl_768 : decode code 768 = .ok (.iadd, 1) := by decide +kernel
theorem dl_769 : decode code 769 = .ok (.iaload, 1) := by decide +kernel
theorem dl_770 : decode code 770 = .ok (.invokevirtual 80, 3) := by decide +kernel
theorem dl_773 : decode code 773 = .ok (.if_icmp .eq 764, 3) := by decide +kernel
theorem dl_776 : decode code 776 = .ok (.iconst 0, 1) := by decide +kernel
theorem dl_777 : decode code 777 = .ok (.ireturn, 1) := by decide +kernel
theorem dl_778 : decode code 778 = .ok (.aload_n 1, 1) := by decide +kernel
theorem dl_779 : decode code 779 = .ok (.aload_n 0, 1) := by decide +kernel
theorem dl_780 : decode code 780 = .ok (.iload 4, 2) := by decide +kernel
theorem dl_782 : decode code 782 = .ok (.iconst 1, 1) := by decide +kernel
theorem dl_783 : decode code 783 = .ok (.iadd, 1) := by decide +kernel
theorem dl_784 : decode code 784 = .ok (.iaload, 1) := by decide +kernel
theorem dl_785 : decode code 785 = .ok (.aload_n 0, 1) := by decide +kernel
theorem dl_786 : decode code 786 = .ok (.iload 4, 2) := by decide +kernel
theorem dl_788 : decode code 788 = .ok (.iconst 2, 1) := by decide +kernel
theorem dl_789 : decode code 789 = .ok (.iadd, 1) := by decide +kernel
theorem dl_790 : decode code 790 = .ok (.iaload, 1) := by decide +kernel
theorem dl_791 : decode code 791 = .ok (.aload_n 0, 1) := by decide +kernel
theorem dl_792 : decode code 792 = .ok (.iload 4, 2) := by decide +kernel
theorem dl_794 : decode code 794 = .ok (.iconst 3, 1) := by decide +kernel
theorem dl_795 : decode code 795 = .ok (.iadd, 1) := by decide +kernel
theorem dl_796 : decode code 796 = .ok (.iaload, 1) := by decide +kernel
theorem dl_797 : decode code 797 = .ok (.aload_n 0, 1) := by decide +kernel
theorem dl_798 : decode code 798 = .ok (.iload 4, 2) := by decide +kernel
theorem dl_800 : decode code 800 = .ok (.iconst 4, 1) := by decide +kernel
theorem dl_801 : decode code 801 = .ok (.iadd, 1) := by decide +kernel
theorem dl_802 : decode code 802 = .ok (.iaload, 1) := by decide +kernel
theorem dl_803 : decode code 803 = .ok (.aload_n 0, 1) := by decide +kernel
theorem dl_804 : decode code 804 = .ok (.iload 4, 2) := by decide +kernel
theorem dl_806 : decode code 806 = .ok (.iconst 5, 1) := by decide +kernel
theorem dl_807 : decode code 807 = .ok (.iadd, 1) := by decide +kernel
theorem dl_808 : decode code 808 = .ok (.iaload, 1) := by decide +kernel
theorem dl_809 : decode code 809 = .ok (.invokevirtual 81, 3) := by decide +kernel
theorem dl_812 : decode code 812 = .ok (.aload_n 2, 1) := by decide +kernel
theorem dl_813 : decode code 813 = .ok (.aload_n 0, 1) := by decide +kernel
theorem dl_814 : decode code 814 = .ok (.iload 4, 2) := by decide +kernel
theorem dl_816 : decode code 816 = .ok (.iconst 1, 1) := by decide +kernel
theorem dl_817 : decode code 817 = .ok (.iadd, 1) := by decide +kernel
theorem dl_818 : decode code 818 = .ok (.iaload, 1) := by decide +kernel
theorem dl_819 : decode code 819 = .ok (.aload_n 0, 1) := by decide +kernel
theorem dl_820 : decode code 820 = .ok (.iload 4, 2) := by decide +kernel
theorem dl_822 : decode code 822 = .ok (.iconst 2, 1) := by decide +kernel
theorem dl_823 : decode code 823 = .ok (.iadd, 1) := by decide +kernel
theorem dl_824 : decode code 824 = .ok (.iaload, 1) := by decide +kernel
theorem dl_825 : decode code 825 = .ok (.aload_n 0, 1) := by decide +kernel
theorem dl_826 : decode code 826 = .ok (.iload 4, 2) := by decide +kernel
theorem dl_828 : decode code 828 = .ok (.iconst 3, 1) := by decide +kernel
theorem dl_829 : decode code 829 = .ok (.iadd, 1) := by decide +kernel
theorem dl_830 : decode code 830 = .ok (.iaload, 1) := by decide +kernel
theorem dl_831 : decode code 831 = .ok (.aload_n 0, 1) := by decide +kernel
theorem dl_832 : decode code 832 = .ok (.iload 4, 2) := by decide +kernel
theorem dl_834 : decode code 834 = .ok (.iconst 4, 1) := by decide +kernel
theorem dl_835 : decode code 835 = .ok (.iadd, 1) := by decide +kernel
theorem dl_836 : decode code 836 = .ok (.iaload, 1) := by decide +kernel
theorem dl_837 : decode code 837 = .ok (.aload_n 0, 1) := by decide +kernel
theorem dl_838 : decode code 838 = .ok (.iload 4, 2) := by decide +kernel
theorem dl_840 : decode code 840 = .ok (.iconst 5, 1) := by decide +kernel
theorem dl_841 : decode code 841 = .ok (.iadd, 1) := by decide +kernel
theorem dl_842 : decode code 842 = .ok (.iaload, 1) := by decide +kernel
theorem dl_843 : decode code 843 = .ok (.invokevirtual 85, 3) := by decide +kernel
theorem dl_846 : decode code 846 = .ok (.if_icmp .eq 691, 3) := by decide +kernel
theorem dl_849 : decode code 849 = .ok (.iconst 0, 1) := by decide +kernel
theorem dl_850 : decode code 850 = .ok (.ireturn, 1) := by decide +kernel
theorem dl_851 : decode code 851 = .ok (.aload_n 1, 1) := by decide +kernel
theorem dl_852 : decode code 852 = .ok (.aload_n 0, 1) := by decide +kernel
theorem dl_853 : decode code 853 = .ok (.iload 4, 2) := by decide +kernel
theorem dl_855 : decode code 855 = .ok (.iconst 1, 1) := by decide +kernel
theorem dl_856 : decode code 856 = .ok (.iadd, 1) := by decide +kernel
theorem dl_857 : decode code 857 = .ok (.iaload, 1) := by decide +kernel
theorem dl_858 : decode code 858 = .ok (.invokevirtual 86, 3) := by decide +kernel
theorem dl_861 : decode code 861 = .ok (.aload_n 2, 1) := by decide +kernel
theorem dl_862 : decode code 862 = .ok (.aload_n 0, 1) := by decide +kernel
theorem dl_863 : decode code 863 = .ok (.iload 4, 2) := by decide +kernel
theorem dl_865 : decode code 865 = .ok (.iconst 1, 1) := by decide +kernel
theorem dl_866 : decode code 866 = .ok (.iadd, 1) := by decide +kernel
theorem dl_867 : decode code 867 = .ok (.iaload, 1) := by decide +kernel
theorem dl_868 : decode code 868 = .ok (.invokevirtual 90, 3) := by decide +kernel
theorem dl_871 : decode code 871 = .ok (.if_icmp .eq 666, 3) := by decide +kernel
theorem dl_874 : decode code 874 = .ok (.iconst 0, 1) := by decide +kernel
theorem dl_875 : decode code 875 = .ok (.ireturn, 1) := by decide +kernel
theorem dl_876 : decode code 876 = .ok (.aload_n 1, 1) := by decide +kernel
theorem dl_877 : decode code 877 = .ok (.aload_n 0, 1) := by decide +kernel
theorem dl_878 : decode code 878 = .ok (.iload 4, 2) := by decide +kernel
theorem dl_880 : decode code 880 = .ok (.iconst 1, 1) := by decide +kernel
theorem dl_881 : decode code 881 = .ok (.iadd, 1) := by decide +kernel
theorem dl_882 : decode code 882 = .ok (.iaload, 1) := by decide +kernel
theorem dl_883 : decode code 883 = .ok (.aload_n 0, 1) := by decide +kernel
theorem dl_884 : decode code 884 = .ok (.iload 4, 2) := by decide +kernel
theorem dl_886 : decode code 886 = .ok (.iconst 2, 1) := by decide +kernel
theorem dl_887 : decode code 887 = .ok (.iadd, 1) := by decide +kernel
theorem dl_888 : decode code 888 = .ok (.iaload, 1) := by decide +kernel
theorem dl_889 : decode code 889 = .ok (.invokevirtual 91, 3) := by decide +kernel
theorem dl_892 : decode code 892 = .ok (.aload_n 2, 1) := by decide +kernel
theorem dl_893 : decode code 893 = .ok (.aload_n 0, 1) := by decide +kernel
theorem dl_894 : decode code 894 = .ok (.iload 4, 2) := by decide +kernel
theorem dl_896 : decode code 896 = .ok (.iconst 1, 1) := by decide +kernel
theorem dl_897 : decode code 897 = .ok (.iadd, 1) := by decide +kernel
theorem dl_898 : decode code 898 = .ok (.iaload, 1) := by decide +kernel
theorem dl_899 : decode code 899 = .ok (.aload_n 0, 1) := by decide +kernel
theorem dl_900 : decode code 900 = .ok (.iload 4, 2) := by decide +kernel
theorem dl_902 : decode code 902 = .ok (.iconst 2, 1) := by decide +kernel
theorem dl_903 : decode code 903 = .ok (.iadd, 1) := by decide +kernel
theorem dl_904 : decode code 904 = .ok (.iaload, 1) := by decide +kernel
theorem dl_905 : decode code 905 = .ok (.invokevirtual 94, 3) := by decide +kernel
theorem dl_908 : decode code 908 = .ok (.if_icmp .eq 629, 3) := by decide +kernel
theorem dl_911 : decode code 911 = .ok (.iconst 0, 1) := by decide +kernel
theorem dl_912 : decode code 912 = .ok (.ireturn, 1) := by decide +kernel
theorem dl_913 : decode code 913 = .ok (.aload_n 1, 1) := by decide +kernel
theorem dl_914 : decode code 914 = .ok (.invokevirtual 95, 3) := by decide +kernel
theorem dl_917 : decode code 917 = .ok (.aload_n 2, 1) := by decide +kernel
theorem dl_918 : decode code 918 = .ok (.invokevirtual 99, 3) := by decide +kernel
theorem dl_921 : decode code 921 = .ok (.if_icmp .eq 616, 3) := by decide +kernel
theorem dl_924 : decode code 924 = .ok (.iconst 0, 1) := by decide +kernel
theorem dl_925 : decode code 925 = .ok (.ireturn, 1) := by decide +kernel
theorem dl_926 : decode code 926 = .ok (.aload_n 1, 1) := by decide +kernel
theorem dl_927 : decode code 927 = .ok (.aload_n 0, 1) := by decide +kernel
theorem dl_928 : decode code 928 = .ok (.iload 4, 2) := by decide +kernel
theorem dl_930 : decode code 930 = .ok (.iconst 1, 1) := by decide +kernel
theorem dl_931 : decode code 931 = .ok (.iadd, 1) := by decide +kernel
theorem dl_932 : decode code 932 = .ok (.iaload, 1) := by decide +kernel
theorem dl_933 : decode code 933 = .ok (.aload_n 0, 1) := by decide +kernel
theorem dl_934 : decode code 934 = .ok (.iload 4, 2) := by decide +kernel
theorem dl_936 : decode code 936 = .ok (.iconst 2, 1) := by decide +kernel
theorem dl_937 : decode code 937 = .ok (.iadd, 1) := by decide +kernel
theorem dl_938 : decode code 938 = .ok (.iaload, 1) := by decide +kernel
theorem dl_939 : decode code 939 = .ok (.aload_n 0, 1) := by decide +kernel
theorem dl_940 : decode code 940 = .ok (.iload 4, 2) := by decide +kernel
theorem dl_942 : decode code 942 = .ok (.iconst 3, 1) := by decide +kernel
theorem dl_943 : decode code 943 = .ok (.iadd, 1) := by decide +kernel
theorem dl_944 : decode code 944 = .ok (.iaload, 1) := by decide +kernel
theorem dl_945 : decode code 945 = .ok (.aload_n 0, 1) := by decide +kernel
theorem dl_946 : decode code 946 = .ok (.iload 4, 2) := by decide +kernel
theorem dl_948 : decode code 948 = .ok (.iconst 4, 1) := by decide +kernel
theorem dl_949 : decode code 949 = .ok (.iadd, 1) := by decide +kernel
theorem dl_950 : decode code 950 = .ok (.iaload, 1) := by decide +kernel
theorem dl_951 : decode code 951 = .ok (.invokevirtual 100, 3) := by decide +kernel
theorem dl_954 : decode code 954 = .ok (.aload_n 2, 1) := by decide +kernel
theorem dl_955 : decode code 955 = .ok (.aload_n 0, 1) := by decide +kernel
theorem dl_956 : decode code 956 = .ok (.iload 4, 2) := by decide +kernel
theorem dl_958 : decode code 958 = .ok (.iconst 1, 1) := by decide +kernel
theorem dl_959 : decode code 959 = .ok (.iadd, 1) := by decide +kernel
theorem dl_960 : decode code 960 = .ok (.iaload, 1) := by decide +kernel
theorem dl_961 : decode code 961 = .ok (.aload_n 0, 1) := by decide +kernel
theorem dl_962 : decode code 962 = .ok (.iload 4, 2) := by decide +kernel
theorem dl_964 : decode code 964 = .ok (.iconst 2, 1) := by decide +kernel
theorem dl_965 : decode code 965 = .ok (.iadd, 1) := by decide +kernel
theorem dl_966 : decode code 966 = .ok (.iaload, 1) := by decide +kernel
theorem dl_967 : decode code 967 = .ok (.aload_n 0, 1) := by decide +kernel
theorem dl_968 : decode code 968 = .ok (.iload 4, 2) := by decide +kernel
theorem dl_970 : decode code 970 = .ok (.iconst 3, 1) := by decide +kernel
theorem dl_971 : decode code 971 = .ok (.iadd, 1) := by decide +kernel
theorem dl_972 : decode code 972 = .ok (.iaload, 1) := by decide +kernel
theorem dl_973 : decode code 973 = .ok (.aload_n 0, 1) := by decide +kernel
theorem dl_974 : decode code 974 = .ok (.iload 4, 2) := by decide +kernel
theorem dl_976 : decode code 976 = .ok (.iconst 4, 1) := by decide +kernel
theorem dl_977 : decode code 977 = .ok (.iadd, 1) := by decide +kernel
theorem dl_978 : decode code 978 = .ok (.iaload, 1) := by decide +kernel
theorem dl_979 : decode code 979 = .ok (.invokevirtual 104, 3) := by decide +kernel
theorem dl_982 : decode code 982 = .ok (.if_icmp .eq 555, 3) := by decide +kernel
theorem dl_985 : decode code 985 = .ok (.iconst 0, 1) := by decide +kernel
theorem dl_986 : decode code 986 = .ok (.ireturn, 1) := by decide +kernel
theorem dl_987 : decode code 987 = .ok (.aload_n 1, 1) := by decide +kernel
theorem dl_988 : decode code 988 = .ok (.aload_n 0, 1) := by decide +kernel
theorem dl_989 : decode code 989 = .ok (.iload 4, 2) := by decide +kernel
theorem dl_991 : decode code 991 = .ok (.iconst 1, 1) := by decide +kernel
theorem dl_992 : decode code 992 = .ok (.iadd, 1) := by decide +kernel
theorem dl_993 : decode code 993 = .ok (.iaload, 1) := by decide +kernel
theorem dl_994 : decode code 994 = .ok (.aload_n 0, 1) := by decide +kernel
theorem dl_995 : decode code 995 = .ok (.iload 4, 2) := by decide +kernel
theorem dl_997 : decode code 997 = .ok (.iconst 2, 1) := by decide +kernel
theorem dl_998 : decode code 998 = .ok (.iadd, 1) := by decide +kernel
theorem dl_999 : decode code 999 = .ok (.iaload, 1) := by decide +kernel
theorem dl_1000 : decode code 1000 = .ok (.aload_n 0, 1) := by decide +kernel
theorem dl_1001 : decode code 1001 = .ok (.iload 4, 2) := by decide +kernel
theorem dl_1003 : decode code 1003 = .ok (.iconst 3, 1) := by decide +kernel
theorem dl_1004 : decode code 1004 = .ok (.iadd, 1) := by decide +kernel
theorem dl_1005 : decode code 1005 = .ok (.iaload, 1) := by decide +kernel
theorem dl_1006 : decode code 1006 = .ok (.aload_n 0, 1) := by decide +kernel
theorem dl_1007 : decode code 1007 = .ok (.iload 4, 2) := by decide +kernel
theorem dl_1009 : decode code 1009 = .ok (.iconst 4, 1) := by decide +kernel
theorem dl_1010 : decode code 1010 = .ok (.iadd, 1) := by decide +kernel
theorem dl_1011 : decode code 1011 = .ok (.iaload, 1) := by decide +kernel
theorem dl_1012 : decode code 1012 = .ok (.aload_n 0, 1) := by decide +kernel
theorem dl_1013 : decode code 1013 = .ok (.iload 4, 2) := by decide +kernel
theorem dl_1015 : decode code 1015 = .ok (.iconst 5, 1) := by decide +kernel
theorem dl_1016 : decode code 1016 = .ok (.iadd, 1) := by decide +kernel
theorem dl_1017 : decode code 1017 = .ok (.iaload, 1) := by decide +kernel
theorem dl_1018 : decode code 1018 = .ok (.invokevirtual 105, 3) := by decide +kernel
theorem dl_1021 : decode code 1021 = .ok (.aload_n 2, 1) := by decide +kernel
theorem dl_1022 : decode code 1022 = .ok (.aload_n 0, 1) := by decide +kernel
theorem dl_1023 : decode code 1023 = .ok (.iload 4, 2) := by decide +kernel
theorem dl_1025 : decode code 1025 = .ok (.iconst 1, 1) := by decide +kernel
theorem dl_1026 : decode code 1026 = .ok (.iadd, 1) := by decide +kernel
theorem dl_1027 : decode code 1027 = .ok (.iaload, 1) := by decide +kernel
theorem dl_1028 : decode code 1028 = .ok (.aload_n 0, 1) := by decide +kernel
theorem dl_1029 : decode code 1029 = .ok (.iload 4, 2) := by decide +kernel
theorem dl_1031 : decode code 1031 = .ok (.iconst 2, 1) := by decide +kernel
theorem dl_1032 : decode code 1032 = .ok (.iadd, 1) := by decide +kernel
theorem dl_1033 : decode code 1033 = .ok (.iaload, 1) := by decide +kernel
theorem dl_1034 : decode code 1034 = .ok (.aload_n 0, 1) := by decide +kernel
theorem dl_1035 : decode code 1035 = .ok (.iload 4, 2) := by decide +kernel
theorem dl_1037 : decode code 1037 = .ok (.iconst 3, 1) := by decide +kernel
theorem dl_1038 : decode code 1038 = .ok (.iadd, 1) := by decide +kernel
theorem dl_1039 : decode code 1039 = .ok (.iaload, 1) := by decide +kernel
theorem dl_1040 : decode code 1040 = .ok (.aload_n 0, 1) := by decide +kernel
theorem dl_1041 : decode code 1041 = .ok (.iload 4, 2) := by decide +kernel
theorem dl_1043 : decode code 1043 = .ok (.iconst 4, 1) := by decide +kernel
theorem dl_1044 : decode code 1044 = .ok (.iadd, 1) := by decide +kernel
theorem dl_1045 : decode code 1045 = .ok (.iaload, 1) := by decide +kernel
theorem dl_1046 : decode code 1046 = .ok (.aload_n 0, 1) := by decide +kernel
theorem dl_1047 : decode code 1047 = .ok (.iload 4, 2) := by decide +kernel
theorem dl_1049 : decode code 1049 = .ok (.iconst 5, 1) := by decide +kernel
theorem dl_1050 : decode code 1050 = .ok (.iadd, 1) := by decide +kernel
theorem dl_1051 : decode code 1051 = .ok (.iaload, 1) := by decide +kernel
theorem dl_1052 : decode code 1052 = .ok (.invokevirtual 108, 3) := by decide +kernel
theorem dl_1055 : decode code 1055 = .ok (.if_icmp .eq 482, 3) := by decide +kernel
theorem dl_1058 : decode code 1058 = .ok (.iconst 0, 1) := by decide +kernel
theorem dl_1059 : decode code 1059 = .ok (.ireturn, 1) := by decide +kernel
theorem dl_1060 : decode code 1060 = .ok (.aload_n 1, 1) := by decide +kernel
theorem dl_1061 : decode code 1061 = .ok (.aload_n 0, 1) := by decide +kernel
theorem dl_1062 : decode code 1062 = .ok (.iload 4, 2) := by decide +kernel
theorem dl_1064 : decode code 1064 = .ok (.iconst 1, 1) := by decide +kernel
theorem dl_1065 : decode code 1065 = .ok (.iadd, 1) := by decide +kernel
theorem dl_1066 : decode code 1066 = .ok (.iaload, 1) := by decide +kernel
theorem dl_1067 : decode code 1067 = .ok (.aload_n 0, 1) := by decide +kernel
theorem dl_1068 : decode code 1068 = .ok (.iload 4, 2) := by decide +kernel
theorem dl_1070 : decode code 1070 = .ok (.iconst 2, 1) := by decide +kernel
theorem dl_1071 : decode code 1071 = .ok (.iadd, 1) := by decide +kernel
theorem dl_1072 : decode code 1072 = .ok (.iaload, 1) := by decide +kernel
theorem dl_1073 : decode code 1073 = .ok (.aload_n 0, 1) := by decide +kernel
theorem dl_1074 : decode code 1074 = .ok (.iload 4, 2) := by decide +kernel
theorem dl_1076 : decode code 1076 = .ok (.iconst 3, 1) := by decide +kernel
theorem dl_1077 : decode code 1077 = .ok (.iadd, 1) := by decide +kernel
theorem dl_1078 : decode code 1078 = .ok (.iaload, 1) := by decide +kernel
theorem dl_1079 : decode code 1079 = .ok (.invokevirtual 109, 3) := by decide +kernel
theorem dl_1082 : decode code 1082 = .ok (.aload_n 2, 1) := by decide +kernel
theorem dl_1083 : decode code 1083 = .ok (.aload_n 0, 1) := by decide +kernel
theorem dl_1084 : decode code 1084 = .ok (.iload 4, 2) := by decide +kernel
theorem dl_1086 : decode code 1086 = .ok (.iconst 1, 1) := by decide +kernel
theorem dl_1087 : decode code 1087 = .ok (.iadd, 1) := by decide +kernel
theorem dl_1088 : decode code 1088 = .ok (.iaload, 1) := by decide +kernel
theorem dl_1089 : decode code 1089 = .ok (.aload_n 0, 1) := by decide +kernel
theorem dl_1090 : decode code 1090 = .ok (.iload 4, 2) := by decide +kernel
theorem dl_1092 : decode code 1092 = .ok (.iconst 2, 1) := by decide +kernel
theorem dl_1093 : decode code 1093 = .ok (.iadd, 1) := by decide +kernel
theorem dl_1094 : decode code 1094 = .ok (.iaload, 1) := by decide +kernel
theorem dl_1095 : decode code 1095 = .ok (.aload_n 0, 1) := by decide +kernel
theorem dl_1096 : decode code 1096 = .ok (.iload 4, 2) := by decide +kernel
theorem dl_1098 : decode code 1098 = .ok (.iconst 3, 1) := by decide +kernel
theorem dl_1099 : decode code 1099 = .ok (.iadd, 1) := by decide +kernel
theorem dl_1100 : decode code 1100 = .ok (.iaload, 1) := by decide +kernel
theorem dl_1101 : decode code 1101 = .ok (.invokevirtual 112, 3) := by decide +kernel
theorem dl_1104 : decode code 1104 = .ok (.if_icmp .eq 433, 3) := by decide +kernel
theorem dl_1107 : decode code 1107 = .ok (.iconst 0, 1) := by decide +kernel
theorem dl_1108 : decode code 1108 = .ok (.ireturn, 1) := by decide +kernel
theorem dl_1109 : decode code 1109 = .ok (.aload_n 1, 1) := by decide +kernel
theorem dl_1110 : decode code 1110 = .ok (.aload_n 0, 1) := by decide +kernel
theorem dl_1111 : decode code 1111 = .ok (.iload 4, 2) := by decide +kernel
theorem dl_1113 : decode code 1113 = .ok (.iconst 1, 1) := by decide +kernel
theorem dl_1114 : decode code 1114 = .ok (.iadd, 1) := by decide +kernel
theorem dl_1115 : decode code 1115 = .ok (.iaload, 1) := by decide +kernel
theorem dl_1116 : decode code 1116 = .ok (.invokevirtual 113, 3) := by decide +kernel
theorem dl_1119 : decode code 1119 = .ok (.aload_n 2, 1) := by decide +kernel
theorem dl_1120 : decode code 1120 = .ok (.aload_n 0, 1) := by decide +kernel
theorem dl_1121 : decode code 1121 = .ok (.iload 4, 2) := by decide +kernel
theorem dl_1123 : decode code 1123 = .ok (.iconst 1, 1) := by decide +kernel
theorem dl_1124 : decode code 1124 = .ok (.iadd, 1) := by decide +kernel
theorem dl_1125 : decode code 1125 = .ok (.iaload, 1) := by decide +kernel
theorem dl_1126 : decode code 1126 = .ok (.invokevirtual 116, 3) := by decide +kernel
theorem dl_1129 : decode code 1129 = .ok (.if_icmp .eq 408, 3) := by decide +kernel
theorem dl_1132 : decode code 1132 = .ok (.iconst 0, 1) := by decide +kernel
theorem dl_1133 : decode code 1133 = .ok (.ireturn, 1) := by decide +kernel
theorem dl_1134 : decode code 1134 = .ok (.aload_n 1, 1) := by decide +kernel
theorem dl_1135 : decode code 1135 = .ok (.aload_n 0, 1) := by decide +kernel
theorem dl_1136 : decode code 1136 = .ok (.iload 4, 2) := by decide +kernel
theorem dl_1138 : decode code 1138 = .ok (.iconst 1, 1) := by decide +kernel
theorem dl_1139 : decode code 1139 = .ok (.iadd, 1) := by decide +kernel
theorem dl_1140 : decode code 1140 = .ok (.iaload, 1) := by decide +kernel
theorem dl_1141 : decode code 1141 = .ok (.aload_n 0, 1) := by decide +kernel
theorem dl_1142 : decode code 1142 = .ok (.iload 4, 2) := by decide +kernel
theorem dl_1144 : decode code 1144 = .ok (.iconst 2, 1) := by decide +kernel
theorem dl_1145 : decode code 1145 = .ok (.iadd, 1) := by decide +kernel
theorem dl_1146 : decode code 1146 = .ok (.iaload, 1) := by decide +kernel
theorem dl_1147 : decode code 1147 = .ok (.invokevirtual 117, 3) := by decide +kernel
theorem dl_1150 : decode code 1150 = .ok (.aload_n 2, 1) := by decide +kernel
theorem dl_1151 : decode code 1151 = .ok (.aload_n 0, 1) := by decide +kernel
theorem dl_1152 : decode code 1152 = .ok (.iload 4, 2) := by decide +kernel
theorem dl_1154 : decode code 1154 = .ok (.iconst 1, 1) := by decide +kernel
theorem dl_1155 : decode code 1155 = .ok (.iadd, 1) := by decide +kernel
theorem dl_1156 : decode code 1156 = .ok (.iaload, 1) := by decide +kernel
theorem dl_1157 : decode code 1157 = .ok (.aload_n 0, 1) := by decide +kernel
theorem dl_1158 : decode code 1158 = .ok (.iload 4, 2) := by decide +kernel
theorem dl_1160 : decode code 1160 = .ok (.iconst 2, 1) := by decide +kernel
theorem dl_1161 : decode code 1161 = .ok (.iadd, 1) := by decide +kernel
theorem dl_1162 : decode code 1162 = .ok (.iaload, 1) := by decide +kernel
theorem dl_1163 : decode code 1163 = .ok (.invokevirtual 120, 3) := by decide +kernel
theorem dl_1166 : decode code 1166 = .ok (.if_icmp .eq 371, 3) := by decide +kernel
theorem dl_1169 : decode code 1169 = .ok (.iconst 0, 1) := by decide +kernel
theorem dl_1170 : decode code 1170 = .ok (.ireturn, 1) := by decide +kernel
theorem dl_1171 : decode code 1171 = .ok (.aload_n 1, 1) := by decide +kernel
theorem dl_1172 : decode code 1172 = .ok (.aload_n 0, 1) := by decide +kernel
theorem dl_1173 : decode code 1173 = .ok (.iload 4, 2) := by decide +kernel
theorem dl_1175 : decode code 1175 = .ok (.iconst 1, 1) := by decide +kernel
theorem dl_1176 : decode code 1176 = .ok (.iadd, 1) := by decide +kernel
theorem dl_1177 : decode code 1177 = .ok (.iaload, 1) := by decide +kernel
theorem dl_1178 : decode code 1178 = .ok (.aload_n 0, 1) := by decide +kernel
theorem dl_1179 : decode code 1179 = .ok (.iload 4, 2) := by decide +kernel
theorem dl_1181 : decode code 1181 = .ok (.iconst 2, 1) := by decide +kernel
theorem dl_1182 : decode code 1182 = .ok (.iadd, 1) := by decide +kernel
theorem dl_1183 : decode code 1183 = .ok (.iaload, 1) := by decide +kernel
theorem dl_1184 : decode code 1184 = .ok (.invokevirtual 121, 3) := by decide +kernel
theorem dl_1187 : decode code 1187 = .ok (.aload_n 2, 1) := by decide +kernel
theorem dl_1188 : decode code 1188 = .ok (.aload_n 0, 1) := by decide +kernel
theorem dl_1189 : decode code 1189 = .ok (.iload 4, 2) := by decide +kernel
theorem dl_1191 : decode code 1191 = .ok (.iconst 1, 1) := by decide +kernel
theorem dl_1192 : decode code 1192 = .ok (.iadd, 1) := by decide +kernel
theorem dl_1193 : decode code 1193 = .ok (.iaload, 1) := by decide +kernel
theorem dl_1194 : decode code 1194 = .ok (.aload_n 0, 1) := by decide +kernel
theorem dl_1195 : decode code 1195 = .ok (.iload 4, 2) := by decide +kernel
theorem dl_1197 : decode code 1197 = .ok (.iconst 2, 1) := by decide +kernel
theorem dl_1198 : decode code 1198 = .ok (.iadd, 1) := by decide +kernel
theorem dl_1199 : decode code 1199 = .ok (.iaload, 1) := by decide +kernel
theorem dl_1200 : decode code 1200 = .ok (.invokevirtual 124, 3) := by decide +kernel
theorem dl_1203 : decode code 1203 = .ok (.if_icmp .eq 334, 3) := by decide +kernel
theorem dl_1206 : decode code 1206 = .ok (.iconst 0, 1) := by decide +kernel
theorem dl_1207 : decode code 1207 = .ok (.ireturn, 1) := by decide +kernel
theorem dl_1208 : decode code 1208 = .ok (.aload_n 1, 1) := by decide +kernel
theorem dl_1209 : decode code 1209 = .ok (.invokevirtual 125, 3) := by decide +kernel
theorem dl_1212 : decode code 1212 = .ok (.aload_n 2, 1) := by decide +kernel
theorem dl_1213 : decode code 1213 = .ok (.invokevirtual 128, 3) := by decide +kernel
theorem dl_1216 : decode code 1216 = .ok (.if_icmp .eq 321, 3) := by decide +kernel
theorem dl_1219 : decode code 1219 = .ok (.iconst 0, 1) := by decide +kernel
theorem dl_1220 : decode code 1220 = .ok (.ireturn, 1) := by decide +kernel
theorem dl_1221 : decode code 1221 = .ok (.aload_n 1, 1) := by decide +kernel
theorem dl_1222 : decode code 1222 = .ok (.aload_n 0, 1) := by decide +kernel
theorem dl_1223 : decode code 1223 = .ok (.iload 4, 2) := by decide +kernel
theorem dl_1225 : decode code 1225 = .ok (.iconst 1, 1) := by decide +kernel
theorem dl_1226 : decode code 1226 = .ok (.iadd, 1) := by decide +kernel
theorem dl_1227 : decode code 1227 = .ok (.iaload, 1) := by decide +kernel
theorem dl_1228 : decode code 1228 = .ok (.aload_n 0, 1) := by decide +kernel
theorem dl_1229 : decode code 1229 = .ok (.iload 4, 2) := by decide +kernel
theorem dl_1231 : decode code 1231 = .ok (.iconst 2, 1) := by decide +kernel
theorem dl_1232 : decode code 1232 = .ok (.iadd, 1) := by decide +kernel
theorem dl_1233 : decode code 1233 = .ok (.iaload, 1) := by decide +kernel
theorem dl_1234 : decode code 1234 = .ok (.invokevirtual 129, 3) := by decide +kernel
theorem dl_1237 : decode code 1237 = .ok (.aload_n 2, 1) := by decide +kernel
theorem dl_1238 : decode code 1238 = .ok (.aload_n 0, 1) := by decide +kernel
theorem dl_1239 : decode code 1239 = .ok (.iload 4, 2) := by decide +kernel
theorem dl_1241 : decode code 1241 = .ok (.iconst 1, 1) := by decide +kernel
theorem dl_1242 : decode code 1242 = .ok (.iadd, 1) := by decide +kernel
theorem dl_1243 : decode code 1243 = .ok (.iaload, 1) := by decide +kernel
theorem dl_1244 : decode code 1244 = .ok (.aload_n 0, 1) := by decide +kernel
theorem dl_1245 : decode code 1245 = .ok (.iload 4, 2) := by decide +kernel
theorem dl_1247 : decode code 1247 = .ok (.iconst 2, 1) := by decide +kernel
theorem dl_1248 : decode code 1248 = .ok (.iadd, 1) := by decide +kernel
theorem dl_1249 : decode code 1249 = .ok (.iaload, 1) := by decide +kernel
theorem dl_1250 : decode code 1250 = .ok (.invokevirtual 132, 3) := by decide +kernel
theorem dl_1253 : decode code 1253 = .ok (.if_icmp .eq 284, 3) := by decide +kernel
theorem dl_1256 : decode code 1256 = .ok (.iconst 0, 1) := by decide +kernel
theorem dl_1257 : decode code 1257 = .ok (.ireturn, 1) := by decide +kernel
theorem dl_1258 : decode code 1258 = .ok (.aload_n 1, 1) := by decide +kernel
theorem dl_1259 : decode code 1259 = .ok (.aload_n 0, 1) := by decide +kernel
theorem dl_1260 : decode code 1260 = .ok (.iload 4, 2) := by decide +kernel
theorem dl_1262 : decode code 1262 = .ok (.iconst 1, 1) := by decide +kernel
theorem dl_1263 : decode code 1263 = .ok (.iadd, 1) := by decide +kernel
theorem dl_1264 : decode code 1264 = .ok (.iaload, 1) := by decide +kernel
theorem dl_1265 : decode code 1265 = .ok (.aload_n 0, 1) := by decide +kernel
theorem dl_1266 : decode code 1266 = .ok (.iload 4, 2) := by decide +kernel
theorem dl_1268 : decode code 1268 = .ok (.iconst 2, 1) := by decide +kernel
theorem dl_1269 : decode code 1269 = .ok (.iadd, 1) := by decide +kernel
theorem dl_1270 : decode code 1270 = .ok (.iaload, 1) := by decide +kernel
theorem dl_1271 : decode code 1271 = .ok (.aload_n 0, 1) := by decide +kernel
theorem dl_1272 : decode code 1272 = .ok (.iload 4, 2) := by decide +kernel
theorem dl_1274 : decode code 1274 = .ok (.iconst 3, 1) := by decide +kernel
theorem dl_1275 : decode code 1275 = .ok (.iadd, 1) := by decide +kernel
theorem dl_1276 : decode code 1276 = .ok (.iaload, 1) := by decide +kernel
theorem dl_1277 : decode code 1277 = .ok (.aload_n 0, 1) := by decide +kernel
theorem dl_1278 : decode code 1278 = .ok (.iload 4, 2) := by decide +kernel
theorem dl_1280 : decode code 1280 = .ok (.iconst 4, 1) := by decide +kernel
theorem dl_1281 : decode code 1281 = .ok (.iadd, 1) := by decide +kernel
theorem dl_1282 : decode code 1282 = .ok (.iaload, 1) := by decide +kernel
theorem dl_1283 : decode code 1283 = .ok (.invokevirtual 133, 3) := by decide +kernel
theorem dl_1286 : decode code 1286 = .ok (.aload_n 2, 1) := by decide +kernel
theorem dl_1287 : decode code 1287 = .ok (.aload_n 0, 1) := by decide +kernel
theorem dl_1288 : decode code 1288 = .ok (.iload 4, 2) := by decide +kernel
theorem dl_1290 : decode code 1290 = .ok (.iconst 1, 1) := by decide +kernel
theorem dl_1291 : decode code 1291 = .ok (.iadd, 1) := by decide +kernel
theorem dl_1292 : decode code 1292 = .ok (.iaload, 1) := by decide +kernel
theorem dl_1293 : decode code 1293 = .ok (.aload_n 0, 1) := by decide +kernel
theorem dl_1294 : decode code 1294 = .ok (.iload 4, 2) := by decide +kernel
theorem dl_1296 : decode code 1296 = .ok (.iconst 2, 1) := by decide +kernel
theorem dl_1297 : decode code 1297 = .ok (.iadd, 1) := by decide +kernel
theorem dl_1298 : decode code 1298 = .ok (.iaload, 1) := by decide +kernel
theorem dl_1299 : decode code 1299 = .ok (.aload_n 0, 1) := by decide +kernel
theorem dl_1300 : decode code 1300 = .ok (.iload 4, 2) := by decide +kernel
theorem dl_1302 : decode code 1302 = .ok (.iconst 3, 1) := by decide +kernel
theorem dl_1303 : decode code 1303 = .ok (.iadd, 1) := by decide +kernel
theorem dl_1304 : decode code 1304 = .ok (.iaload, 1) := by decide +kernel
theorem dl_1305 : decode code 1305 = .ok (.aload_n 0, 1) := by decide +kernel
theorem dl_1306 : decode code 1306 = .ok (.iload 4, 2) := by decide +kernel
theorem dl_1308 : decode code 1308 = .ok (.iconst 4, 1) := by decide +kernel
theorem dl_1309 : decode code 1309 = .ok (.iadd, 1) := by decide +kernel
theorem dl_1310 : decode code 1310 = .ok (.iaload, 1) := by decide +kernel
theorem dl_1311 : decode code 1311 = .ok (.invokevirtual 136, 3) := by decide +kernel
theorem dl_1314 : decode code 1314 = .ok (.if_icmp .eq 223, 3) := by decide +kernel
theorem dl_1317 : decode code 1317 = .ok (.iconst 0, 1) := by decide +kernel
theorem dl_1318 : decode code 1318 = .ok (.ireturn, 1) := by decide +kernel
theorem dl_1319 : decode code 1319 = .ok (.aload_n 1, 1) := by decide +kernel
theorem dl_1320 : decode code 1320 = .ok (.aload_n 0, 1) := by decide +kernel
theorem dl_1321 : decode code 1321 = .ok (.iload 4, 2) := by decide +kernel
theorem dl_1323 : decode code 1323 = .ok (.iconst 1, 1) := by decide +kernel
theorem dl_1324 : decode code 1324 = .ok (.iadd, 1) := by decide +kernel
theorem dl_1325 : decode code 1325 = .ok (.iaload, 1) := by decide +kernel
theorem dl_1326 : decode code 1326 = .ok (.invokevirtual 137, 3) := by decide +kernel
theorem dl_1329 : decode code 1329 = .ok (.aload_n 2, 1) := by decide +kernel
theorem dl_1330 : decode code 1330 = .ok (.aload_n 0, 1) := by decide +kernel
theorem dl_1331 : decode code 1331 = .ok (.iload 4, 2) := by decide +kernel
theorem dl_1333 : decode code 1333 = .ok (.iconst 1, 1) := by decide +kernel
theorem dl_1334 : decode code 1334 = .ok (.iadd, 1) := by decide +kernel
theorem dl_1335 : decode code 1335 = .ok (.iaload, 1) := by decide +kernel
theorem dl_1336 : decode code 1336 = .ok (.invokevirtual 140, 3) := by decide +kernel
theorem dl_1339 : decode code 1339 = .ok (.if_icmp .eq 198, 3) := by decide +kernel
theorem dl_1342 : decode code 1342 = .ok (.iconst 0, 1) := by decide +kernel
theorem dl_1343 : decode code 1343 = .ok (.ireturn, 1) := by decide +kernel
theorem dl_1344 : decode code 1344 = .ok (.aload_n 1, 1) := by decide +kernel
theorem dl_1345 : decode code 1345 = .ok (.invokevirtual 141, 3) := by decide +kernel
theorem dl_1348 : decode code 1348 = .ok (.aload_n 2, 1) := by decide +kernel
theorem dl_1349 : decode code 1349 = .ok (.invokevirtual 144, 3) := by decide +kernel
theorem dl_1352 : decode code 1352 = .ok (.if_icmp .eq 185, 3) := by decide +kernel
theorem dl_1355 : decode code 1355 = .ok (.iconst 0, 1) := by decide +kernel
theorem dl_1356 : decode code 1356 = .ok (.ireturn, 1) := by decide +kernel
theorem dl_1357 : decode code 1357 = .ok (.aload_n 1, 1) := by decide +kernel
theorem dl_1358 : decode code 1358 = .ok (.aload_n 0, 1) := by decide +kernel
theorem dl_1359 : decode code 1359 = .ok (.iload 4, 2) := by decide +kernel
theorem dl_1361 : decode code 1361 = .ok (.iconst 1, 1) := by decide +kernel
theorem dl_1362 : decode code 1362 = .ok (.iadd, 1) := by decide +kernel
theorem dl_1363 : decode code 1363 = .ok (.iaload, 1) := by decide +kernel
theorem dl_1364 : decode code 1364 = .ok (.aload_n 0, 1) := by decide +kernel
theorem dl_1365 : decode code 1365 = .ok (.iload 4, 2) := by decide +kernel
theorem dl_1367 : decode code 1367 = .ok (.iconst 2, 1) := by decide +kernel
theorem dl_1368 : decode code 1368 = .ok (.iadd, 1) := by decide +kernel
theorem dl_1369 : decode code 1369 = .ok (.iaload, 1) := by decide +kernel
theorem dl_1370 : decode code 1370 = .ok (.invokevirtual 145, 3) := by decide +kernel
theorem dl_1373 : decode code 1373 = .ok (.aload_n 2, 1) := by decide +kernel
theorem dl_1374 : decode code 1374 = .ok (.aload_n 0, 1) := by decide +kernel
theorem dl_1375 : decode code 1375 = .ok (.iload 4, 2) := by decide +kernel
theorem dl_1377 : decode code 1377 = .ok (.iconst 1, 1) := by decide +kernel
theorem dl_1378 : decode code 1378 = .ok (.iadd, 1) := by decide +kernel
theorem dl_1379 : decode code 1379 = .ok (.iaload, 1) := by decide +kernel
theorem dl_1380 : decode code 1380 = .ok (.aload_n 0, 1) := by decide +kernel
theorem dl_1381 : decode code 1381 = .ok (.iload 4, 2) := by decide +kernel
theorem dl_1383 : decode code 1383 = .ok (.iconst 2, 1) := by decide +kernel
theorem dl_1384 : decode code 1384 = .ok (.iadd, 1) := by decide +kernel
theorem dl_1385 : decode code 1385 = .ok (.iaload, 1) := by decide +kernel
theorem dl_1386 : decode code 1386 = .ok (.invokevirtual 148, 3) := by decide +kernel
theorem dl_1389 : decode code 1389 = .ok (.if_icmp .eq 148, 3) := by decide +kernel
theorem dl_1392 : decode code 1392 = .ok (.iconst 0, 1) := by decide +kernel
theorem dl_1393 : decode code 1393 = .ok (.ireturn, 1) := by decide +kernel
theorem dl_1394 : decode code 1394 = .ok (.aload_n 1, 1) := by decide +kernel
theorem dl_1395 : decode code 1395 = .ok (.invokevirtual 149, 3) := by decide +kernel
theorem dl_1398 : decode code 1398 = .ok (.aload_n 2, 1) := by decide +kernel
theorem dl_1399 : decode code 1399 = .ok (.invokevirtual 152, 3) := by decide +kernel
theorem dl_1402 : decode code 1402 = .ok (.if_icmp .eq 135, 3) := by decide +kernel
theorem dl_1405 : decode code 1405 = .ok (.iconst 0, 1) := by decide +kernel
theorem dl_1406 : decode code 1406 = .ok (.ireturn, 1) := by decide +kernel
theorem dl_1407 : decode code 1407 = .ok (.aload_n 1, 1) := by decide +kernel
theorem dl_1408 : decode code 1408 = .ok (.aload_n 0, 1) := by decide +kernel
theorem dl_1409 : decode code 1409 = .ok (.iload 4, 2) := by decide +kernel
theorem dl_1411 : decode code 1411 = .ok (.iconst 1, 1) := by decide +kernel
theorem dl_1412 : decode code 1412 = .ok (.iadd, 1) := by decide +kernel
theorem dl_1413 : decode code 1413 = .ok (.iaload, 1) := by decide +kernel
theorem dl_1414 : decode code 1414 = .ok (.aload_n 0, 1) := by decide +kernel
theorem dl_1415 : decode code 1415 = .ok (.iload 4, 2) := by decide +kernel
theorem dl_1417 : decode code 1417 = .ok (.iconst 2, 1) := by decide +kernel
theorem dl_1418 : decode code 1418 = .ok (.iadd, 1) := by decide +kernel
theorem dl_1419 : decode code 1419 = .ok (.iaload, 1) := by decide +kernel
theorem dl_1420 : decode code 1420 = .ok (.aload_n 3, 1) := by decide +kernel
theorem dl_1421 : decode code 1421 = .ok (.invokestatic 153, 3) := by decide +kernel
theorem dl_1424 : decode code 1424 = .ok (.istore 5, 2) := by decide +kernel
theorem dl_1426 : decode code 1426 = .ok (.aload_n 2, 1) := by decide +kernel
theorem dl_1427 : decode code 1427 = .ok (.aload_n 0, 1) := by decide +kernel
theorem dl_1428 : decode code 1428 = .ok (.iload 4, 2) := by decide +kernel
theorem dl_1430 : decode code 1430 = .ok (.iconst 1, 1) := by decide +kernel
theorem dl_1431 : decode code 1431 = .ok (.iadd, 1) := by decide +kernel
theorem dl_1432 : decode code 1432 = .ok (.iaload, 1) := by decide +kernel
theorem dl_1433 : decode code 1433 = .ok (.aload_n 0, 1) := by decide +kernel
theorem dl_1434 : decode code 1434 = .ok (.iload 4, 2) := by decide +kernel
theorem dl_1436 : decode code 1436 = .ok (.iconst 2, 1) := by decide +kernel
theorem dl_1437 : decode code 1437 = .ok (.iadd, 1) := by decide +kernel
theorem dl_1438 : decode code 1438 = .ok (.iaload, 1) := by decide +kernel
theorem dl_1439 : decode code 1439 = .ok (.invokevirtual 158, 3) := by decide +kernel
theorem dl_1442 : decode code 1442 = .ok (.istore 6, 2) := by decide +kernel
theorem dl_1444 : decode code 1444 = .ok (.aload_n 2, 1) := by decide +kernel
theorem dl_1445 : decode code 1445 = .ok (.invokevirtual 159, 3) := by decide +kernel
theorem dl_1448 : decode code 1448 = .ok (.iload 5, 2) := by decide +kernel
theorem dl_1450 : decode code 1450 = .ok (.if_icmp .eq 5, 3) := by decide +kernel
theorem dl_1453 : decode code 1453 = .ok (.iconst 0, 1) := by decide +kernel
theorem dl_1454 : decode code 1454 = .ok (.ireturn, 1) := by decide +kernel
theorem dl_1455 : decode code 1455 = .ok (.iload 5, 2) := by decide +kernel
theorem dl_1457 : decode code 1457 = .ok (.ifCond .ne 15, 3) := by decide +kernel
theorem dl_1460 : decode code 1460 = .ok (.aload_n 3, 1) := by decide +kernel
theorem dl_1461 : decode code 1461 = .ok (.iconst 0, 1) := by decide +kernel
theorem dl_1462 : decode code 1462 = .ok (.laload, 1) := by decide +kernel
theorem dl_1463 : decode code 1463 = .ok (.iload 6, 2) := by decide +kernel
theorem dl_1465 : decode code 1465 = .ok (.i2l, 1) := by decide +kernel
theorem dl_1466 : decode code 1466 = .ok (.lcmp, 1) := by decide +kernel
theorem dl_1467 : decode code 1467 = .ok (.ifCond .eq 5, 3) := by decide +kernel
theorem dl_1470 : decode code 1470 = .ok (.iconst 0, 1) := by decide +kernel
theorem dl_1471 : decode code 1471 = .ok (.ireturn, 1) := by decide +kernel
theorem dl_1472 : decode code 1472 = .ok (.goto 65, 3) := by decide +kernel
theorem dl_1475 : decode code 1475 = .ok (.aload_n 1, 1) := by decide +kernel
theorem dl_1476 : decode code 1476 = .ok (.aload_n 0, 1) := by decide +kernel
theorem dl_1477 : decode code 1477 = .ok (.iload 4, 2) := by decide +kernel
theorem dl_1479 : decode code 1479 = .ok (.iconst 1, 1) := by decide +kernel
theorem dl_1480 : decode code 1480 = .ok (.iadd, 1) := by decide +kernel
theorem dl_1481 : decode code 1481 = .ok (.iaload, 1) := by decide +kernel
theorem dl_1482 : decode code 1482 = .ok (.aload_n 0, 1) := by decide +kernel
theorem dl_1483 : decode code 1483 = .ok (.iload 4, 2) := by decide +kernel
theorem dl_1485 : decode code 1485 = .ok (.iconst 2, 1) := by decide +kernel
theorem dl_1486 : decode code 1486 = .ok (.iadd, 1) := by decide +kernel
theorem dl_1487 : decode code 1487 = .ok (.iaload, 1) := by decide +kernel
theorem dl_1488 : decode code 1488 = .ok (.invokevirtual 162, 3) := by decide +kernel
theorem dl_1491 : decode code 1491 = .ok (.aload_n 2, 1) := by decide +kernel
theorem dl_1492 : decode code 1492 = .ok (.aload_n 0, 1) := by decide +kernel
theorem dl_1493 : decode code 1493 = .ok (.iload 4, 2) := by decide +kernel
theorem dl_1495 : decode code 1495 = .ok (.iconst 1, 1) := by decide +kernel
theorem dl_1496 : decode code 1496 = .ok (.iadd, 1) := by decide +kernel
theorem dl_1497 : decode code 1497 = .ok (.iaload, 1) := by decide +kernel
theorem dl_1498 : decode code 1498 = .ok (.aload_n 0, 1) := by decide +kernel
theorem dl_1499 : decode code 1499 = .ok (.iload 4, 2) := by decide +kernel
theorem dl_1501 : decode code 1501 = .ok (.iconst 2, 1) := by decide +kernel
theorem dl_1502 : decode code 1502 = .ok (.iadd, 1) := by decide +kernel
theorem dl_1503 : decode code 1503 = .ok (.iaload, 1) := by decide +kernel
theorem dl_1504 : decode code 1504 = .ok (.invokevirtual 165, 3) := by decide +kernel
theorem dl_1507 : decode code 1507 = .ok (.if_icmp .eq 30, 3) := by decide +kernel
theorem dl_1510 : decode code 1510 = .ok (.iconst 0, 1) := by decide +kernel
theorem dl_1511 : decode code 1511 = .ok (.ireturn, 1) := by decide +kernel
theorem dl_1512 : decode code 1512 = .ok (.aload_n 1, 1) := by decide +kernel
theorem dl_1513 : decode code 1513 = .ok (.aload_n 0, 1) := by decide +kernel
theorem dl_1514 : decode code 1514 = .ok (.iload 4, 2) := by decide +kernel
theorem dl_1516 : decode code 1516 = .ok (.iconst 1, 1) := by decide +kernel
theorem dl_1517 : decode code 1517 = .ok (.iadd, 1) := by decide +kernel
theorem dl_1518 : decode code 1518 = .ok (.iaload, 1) := by decide +kernel
theorem dl_1519 : decode code 1519 = .ok (.invokevirtual 166, 3) := by decide +kernel
theorem dl_1522 : decode code 1522 = .ok (.aload_n 2, 1) := by decide +kernel
theorem dl_1523 : decode code 1523 = .ok (.aload_n 0, 1) := by decide +kernel
theorem dl_1524 : decode code 1524 = .ok (.iload 4, 2) := by decide +kernel
theorem dl_1526 : decode code 1526 = .ok (.iconst 1, 1) := by decide +kernel
theorem dl_1527 : decode code 1527 = .ok (.iadd, 1) := by decide +kernel
theorem dl_1528 : decode code 1528 = .ok (.iaload, 1) := by decide +kernel
theorem dl_1529 : decode code 1529 = .ok (.invokevirtual 169, 3) := by decide +kernel
theorem dl_1532 : decode code 1532 = .ok (.if_icmp .eq 5, 3) := by decide +kernel
theorem dl_1535 : decode code 1535 = .ok (.iconst 0, 1) := by decide +kernel
theorem dl_1536 : decode code 1536 = .ok (.ireturn, 1) := by decide +kernel
theorem dl_1537 : decode code 1537 = .ok (.iinc 4 6, 3) := by decide +kernel
theorem dl_1540 : decode code 1540 = .ok (.goto (-1517), 3) := by decide +kernel
theorem dl_1543 : decode code 1543 = .ok (.iconst 1, 1) := by decide +kernel
theorem dl_1544 : decode code 1544 = .ok (.ireturn, 1) := by decide +kernel
theorem w535 : (Jvm.Cond.methodLink "MillBoatsLaw" (19 : Nat) ({ cls := "MillBoats", name := "bed", desc := "(II)Z" } : Jvm.MethodName)) ∈ ALLG := tk3 55 rfl rfl
theorem w536 : (Jvm.Cond.instanceMethod ({ cls := "MillBoats", name := "bed", desc := "(II)Z" } : Jvm.MethodName)) ∈ ALLG := tk3 56 rfl rfl
theorem w537 : (Jvm.Cond.selects "MillBoats" ({ cls := "MillBoats", name := "bed", desc := "(II)Z" } : Jvm.MethodName) ({ cls := "MillBoats", name := "bed", desc := "(II)Z" } : Jvm.MethodName)) ∈ ALLG := tk3 57 rfl rfl
theorem w538 : (Jvm.Cond.code ({ cls := "MillBoats", name := "bed", desc := "(II)Z" } : Jvm.MethodName) prog_1_method_2_code (3 : Nat) (Option.some Jvm.ClassFile.FieldType.boolean)) ∈ ALLG := tk3 58 rfl rfl
theorem w1490 : (Jvm.Cond.methodLink "MillBoatsLaw" (23 : Nat) ({ cls := "MillBoatsModel", name := "bed", desc := "(II)Z" } : Jvm.MethodName)) ∈ ALLG := tk7 50 rfl rfl
theorem w1491 : (Jvm.Cond.instanceMethod ({ cls := "MillBoatsModel", name := "bed", desc := "(II)Z" } : Jvm.MethodName)) ∈ ALLG := tk7 51 rfl rfl
theorem w1492 : (Jvm.Cond.selects "MillBoatsModel" ({ cls := "MillBoatsModel", name := "bed", desc := "(II)Z" } : Jvm.MethodName) ({ cls := "MillBoatsModel", name := "bed", desc := "(II)Z" } : Jvm.MethodName)) ∈ ALLG := tk7 52 rfl rfl
theorem w1493 : (Jvm.Cond.code ({ cls := "MillBoatsModel", name := "bed", desc := "(II)Z" } : Jvm.MethodName) prog_14_method_5_code (3 : Nat) (Option.some Jvm.ClassFile.FieldType.boolean)) ∈ ALLG := tk7 53 rfl rfl
theorem w545 : (Jvm.Cond.methodLink "MillBoatsLaw" (24 : Nat) ({ cls := "MillBoats", name := "point", desc := "(III)Z" } : Jvm.MethodName)) ∈ ALLG := tk3 65 rfl rfl
theorem w546 : (Jvm.Cond.instanceMethod ({ cls := "MillBoats", name := "point", desc := "(III)Z" } : Jvm.MethodName)) ∈ ALLG := tk3 66 rfl rfl
theorem w547 : (Jvm.Cond.selects "MillBoats" ({ cls := "MillBoats", name := "point", desc := "(III)Z" } : Jvm.MethodName) ({ cls := "MillBoats", name := "point", desc := "(III)Z" } : Jvm.MethodName)) ∈ ALLG := tk3 67 rfl rfl
theorem w548 : (Jvm.Cond.code ({ cls := "MillBoats", name := "point", desc := "(III)Z" } : Jvm.MethodName) prog_1_method_3_code (4 : Nat) (Option.some Jvm.ClassFile.FieldType.boolean)) ∈ ALLG := tk3 68 rfl rfl
theorem w1500 : (Jvm.Cond.methodLink "MillBoatsLaw" (28 : Nat) ({ cls := "MillBoatsModel", name := "point", desc := "(III)Z" } : Jvm.MethodName)) ∈ ALLG := tk7 60 rfl rfl
theorem w1501 : (Jvm.Cond.instanceMethod ({ cls := "MillBoatsModel", name := "point", desc := "(III)Z" } : Jvm.MethodName)) ∈ ALLG := tk7 61 rfl rfl
theorem w1502 : (Jvm.Cond.selects "MillBoatsModel" ({ cls := "MillBoatsModel", name := "point", desc := "(III)Z" } : Jvm.MethodName) ({ cls := "MillBoatsModel", name := "point", desc := "(III)Z" } : Jvm.MethodName)) ∈ ALLG := tk7 62 rfl rfl
theorem w1503 : (Jvm.Cond.code ({ cls := "MillBoatsModel", name := "point", desc := "(III)Z" } : Jvm.MethodName) prog_14_method_6_code (8 : Nat) (Option.some Jvm.ClassFile.FieldType.boolean)) ∈ ALLG := tk7 63 rfl rfl
theorem w553 : (Jvm.Cond.methodLink "MillBoatsLaw" (29 : Nat) ({ cls := "MillBoats", name := "value", desc := "(II)I" } : Jvm.MethodName)) ∈ ALLG := tk3 73 rfl rfl
theorem w554 : (Jvm.Cond.instanceMethod ({ cls := "MillBoats", name := "value", desc := "(II)I" } : Jvm.MethodName)) ∈ ALLG := tk3 74 rfl rfl
theorem w555 : (Jvm.Cond.selects "MillBoats" ({ cls := "MillBoats", name := "value", desc := "(II)I" } : Jvm.MethodName) ({ cls := "MillBoats", name := "value", desc := "(II)I" } : Jvm.MethodName)) ∈ ALLG := tk3 75 rfl rfl
theorem w556 : (Jvm.Cond.code ({ cls := "MillBoats", name := "value", desc := "(II)I" } : Jvm.MethodName) prog_1_method_4_code (3 : Nat) (Option.some Jvm.ClassFile.FieldType.int)) ∈ ALLG := tk3 76 rfl rfl
theorem w1504 : (Jvm.Cond.methodLink "MillBoatsLaw" (32 : Nat) ({ cls := "MillBoatsModel", name := "value", desc := "(II)I" } : Jvm.MethodName)) ∈ ALLG := tk7 64 rfl rfl
theorem w1505 : (Jvm.Cond.instanceMethod ({ cls := "MillBoatsModel", name := "value", desc := "(II)I" } : Jvm.MethodName)) ∈ ALLG := tk7 65 rfl rfl
theorem w1506 : (Jvm.Cond.selects "MillBoatsModel" ({ cls := "MillBoatsModel", name := "value", desc := "(II)I" } : Jvm.MethodName) ({ cls := "MillBoatsModel", name := "value", desc := "(II)I" } : Jvm.MethodName)) ∈ ALLG := tk7 66 rfl rfl
theorem w1507 : (Jvm.Cond.code ({ cls := "MillBoatsModel", name := "value", desc := "(II)I" } : Jvm.MethodName) prog_14_method_8_code (3 : Nat) (Option.some Jvm.ClassFile.FieldType.int)) ∈ ALLG := tk7 67 rfl rfl
theorem w564 : (Jvm.Cond.methodLink "MillBoatsLaw" (33 : Nat) ({ cls := "MillBoats", name := "mill", desc := "(III)I" } : Jvm.MethodName)) ∈ ALLG := tk3 84 rfl rfl
theorem w565 : (Jvm.Cond.instanceMethod ({ cls := "MillBoats", name := "mill", desc := "(III)I" } : Jvm.MethodName)) ∈ ALLG := tk3 85 rfl rfl
theorem w566 : (Jvm.Cond.selects "MillBoats" ({ cls := "MillBoats", name := "mill", desc := "(III)I" } : Jvm.MethodName) ({ cls := "MillBoats", name := "mill", desc := "(III)I" } : Jvm.MethodName)) ∈ ALLG := tk3 86 rfl rfl
theorem w567 : (Jvm.Cond.code ({ cls := "MillBoats", name := "mill", desc := "(III)I" } : Jvm.MethodName) prog_1_method_5_code (4 : Nat) (Option.some Jvm.ClassFile.FieldType.int)) ∈ ALLG := tk3 87 rfl rfl
theorem w1512 : (Jvm.Cond.methodLink "MillBoatsLaw" (37 : Nat) ({ cls := "MillBoatsModel", name := "mill", desc := "(III)I" } : Jvm.MethodName)) ∈ ALLG := tk7 72 rfl rfl
theorem w1513 : (Jvm.Cond.instanceMethod ({ cls := "MillBoatsModel", name := "mill", desc := "(III)I" } : Jvm.MethodName)) ∈ ALLG := tk7 73 rfl rfl
theorem w1514 : (Jvm.Cond.selects "MillBoatsModel" ({ cls := "MillBoatsModel", name := "mill", desc := "(III)I" } : Jvm.MethodName) ({ cls := "MillBoatsModel", name := "mill", desc := "(III)I" } : Jvm.MethodName)) ∈ ALLG := tk7 74 rfl rfl
theorem w1515 : (Jvm.Cond.code ({ cls := "MillBoatsModel", name := "mill", desc := "(III)I" } : Jvm.MethodName) prog_14_method_10_code (4 : Nat) (Option.some Jvm.ClassFile.FieldType.int)) ∈ ALLG := tk7 75 rfl rfl
theorem w572 : (Jvm.Cond.methodLink "MillBoatsLaw" (38 : Nat) ({ cls := "MillBoats", name := "moor", desc := "(II)I" } : Jvm.MethodName)) ∈ ALLG := tk3 92 rfl rfl
theorem w573 : (Jvm.Cond.instanceMethod ({ cls := "MillBoats", name := "moor", desc := "(II)I" } : Jvm.MethodName)) ∈ ALLG := tk3 93 rfl rfl
theorem w574 : (Jvm.Cond.selects "MillBoats" ({ cls := "MillBoats", name := "moor", desc := "(II)I" } : Jvm.MethodName) ({ cls := "MillBoats", name := "moor", desc := "(II)I" } : Jvm.MethodName)) ∈ ALLG := tk3 94 rfl rfl
theorem w575 : (Jvm.Cond.code ({ cls := "MillBoats", name := "moor", desc := "(II)I" } : Jvm.MethodName) prog_1_method_6_code (4 : Nat) (Option.some Jvm.ClassFile.FieldType.int)) ∈ ALLG := tk3 95 rfl rfl
theorem w1516 : (Jvm.Cond.methodLink "MillBoatsLaw" (41 : Nat) ({ cls := "MillBoatsModel", name := "moor", desc := "(II)I" } : Jvm.MethodName)) ∈ ALLG := tk7 76 rfl rfl
theorem w1517 : (Jvm.Cond.instanceMethod ({ cls := "MillBoatsModel", name := "moor", desc := "(II)I" } : Jvm.MethodName)) ∈ ALLG := tk7 77 rfl rfl
theorem w1518 : (Jvm.Cond.selects "MillBoatsModel" ({ cls := "MillBoatsModel", name := "moor", desc := "(II)I" } : Jvm.MethodName) ({ cls := "MillBoatsModel", name := "moor", desc := "(II)I" } : Jvm.MethodName)) ∈ ALLG := tk7 78 rfl rfl
theorem w1519 : (Jvm.Cond.code ({ cls := "MillBoatsModel", name := "moor", desc := "(II)I" } : Jvm.MethodName) prog_14_method_13_code (4 : Nat) (Option.some Jvm.ClassFile.FieldType.int)) ∈ ALLG := tk7 79 rfl rfl
theorem w584 : (Jvm.Cond.methodLink "MillBoatsLaw" (42 : Nat) ({ cls := "MillBoats", name := "dress", desc := "(I)Z" } : Jvm.MethodName)) ∈ ALLG := tk3 104 rfl rfl
theorem w585 : (Jvm.Cond.instanceMethod ({ cls := "MillBoats", name := "dress", desc := "(I)Z" } : Jvm.MethodName)) ∈ ALLG := tk3 105 rfl rfl
theorem w586 : (Jvm.Cond.selects "MillBoats" ({ cls := "MillBoats", name := "dress", desc := "(I)Z" } : Jvm.MethodName) ({ cls := "MillBoats", name := "dress", desc := "(I)Z" } : Jvm.MethodName)) ∈ ALLG := tk3 106 rfl rfl
theorem w587 : (Jvm.Cond.code ({ cls := "MillBoats", name := "dress", desc := "(I)Z" } : Jvm.MethodName) prog_1_method_7_code (2 : Nat) (Option.some Jvm.ClassFile.FieldType.boolean)) ∈ ALLG := tk3 107 rfl rfl
theorem w1528 : (Jvm.Cond.methodLink "MillBoatsLaw" (46 : Nat) ({ cls := "MillBoatsModel", name := "dress", desc := "(I)Z" } : Jvm.MethodName)) ∈ ALLG := tk7 88 rfl rfl
theorem w1529 : (Jvm.Cond.instanceMethod ({ cls := "MillBoatsModel", name := "dress", desc := "(I)Z" } : Jvm.MethodName)) ∈ ALLG := tk7 89 rfl rfl
theorem w1530 : (Jvm.Cond.selects "MillBoatsModel" ({ cls := "MillBoatsModel", name := "dress", desc := "(I)Z" } : Jvm.MethodName) ({ cls := "MillBoatsModel", name := "dress", desc := "(I)Z" } : Jvm.MethodName)) ∈ ALLG := tk7 90 rfl rfl
theorem w1531 : (Jvm.Cond.code ({ cls := "MillBoatsModel", name := "dress", desc := "(I)Z" } : Jvm.MethodName) prog_14_method_14_code (2 : Nat) (Option.some Jvm.ClassFile.FieldType.boolean)) ∈ ALLG := tk7 91 rfl rfl
theorem w592 : (Jvm.Cond.methodLink "MillBoatsLaw" (47 : Nat) ({ cls := "MillBoats", name := "flow", desc := "(II)I" } : Jvm.MethodName)) ∈ ALLG := tk3 112 rfl rfl
theorem w593 : (Jvm.Cond.instanceMethod ({ cls := "MillBoats", name := "flow", desc := "(II)I" } : Jvm.MethodName)) ∈ ALLG := tk3 113 rfl rfl
theorem w594 : (Jvm.Cond.selects "MillBoats" ({ cls := "MillBoats", name := "flow", desc := "(II)I" } : Jvm.MethodName) ({ cls := "MillBoats", name := "flow", desc := "(II)I" } : Jvm.MethodName)) ∈ ALLG := tk3 114 rfl rfl
theorem w595 : (Jvm.Cond.code ({ cls := "MillBoats", name := "flow", desc := "(II)I" } : Jvm.MethodName) prog_1_method_8_code (3 : Nat) (Option.some Jvm.ClassFile.FieldType.int)) ∈ ALLG := tk3 115 rfl rfl
theorem w1532 : (Jvm.Cond.methodLink "MillBoatsLaw" (50 : Nat) ({ cls := "MillBoatsModel", name := "flow", desc := "(II)I" } : Jvm.MethodName)) ∈ ALLG := tk7 92 rfl rfl
theorem w1533 : (Jvm.Cond.instanceMethod ({ cls := "MillBoatsModel", name := "flow", desc := "(II)I" } : Jvm.MethodName)) ∈ ALLG := tk7 93 rfl rfl
theorem w1534 : (Jvm.Cond.selects "MillBoatsModel" ({ cls := "MillBoatsModel", name := "flow", desc := "(II)I" } : Jvm.MethodName) ({ cls := "MillBoatsModel", name := "flow", desc := "(II)I" } : Jvm.MethodName)) ∈ ALLG := tk7 94 rfl rfl
theorem w1535 : (Jvm.Cond.code ({ cls := "MillBoatsModel", name := "flow", desc := "(II)I" } : Jvm.MethodName) prog_14_method_21_code (3 : Nat) (Option.some Jvm.ClassFile.FieldType.int)) ∈ ALLG := tk7 95 rfl rfl
theorem w614 : (Jvm.Cond.methodLink "MillBoatsLaw" (51 : Nat) ({ cls := "MillBoats", name := "power", desc := "(II)I" } : Jvm.MethodName)) ∈ ALLG := tk3 134 rfl rfl
theorem w615 : (Jvm.Cond.instanceMethod ({ cls := "MillBoats", name := "power", desc := "(II)I" } : Jvm.MethodName)) ∈ ALLG := tk3 135 rfl rfl
theorem w616 : (Jvm.Cond.selects "MillBoats" ({ cls := "MillBoats", name := "power", desc := "(II)I" } : Jvm.MethodName) ({ cls := "MillBoats", name := "power", desc := "(II)I" } : Jvm.MethodName)) ∈ ALLG := tk3 136 rfl rfl
theorem w617 : (Jvm.Cond.code ({ cls := "MillBoats", name := "power", desc := "(II)I" } : Jvm.MethodName) prog_1_method_9_code (3 : Nat) (Option.some Jvm.ClassFile.FieldType.int)) ∈ ALLG := tk3 137 rfl rfl
theorem w1544 : (Jvm.Cond.methodLink "MillBoatsLaw" (54 : Nat) ({ cls := "MillBoatsModel", name := "power", desc := "(II)I" } : Jvm.MethodName)) ∈ ALLG := tk7 104 rfl rfl
theorem w1545 : (Jvm.Cond.instanceMethod ({ cls := "MillBoatsModel", name := "power", desc := "(II)I" } : Jvm.MethodName)) ∈ ALLG := tk7 105 rfl rfl
theorem w1546 : (Jvm.Cond.selects "MillBoatsModel" ({ cls := "MillBoatsModel", name := "power", desc := "(II)I" } : Jvm.MethodName) ({ cls := "MillBoatsModel", name := "power", desc := "(II)I" } : Jvm.MethodName)) ∈ ALLG := tk7 106 rfl rfl
theorem w1547 : (Jvm.Cond.code ({ cls := "MillBoatsModel", name := "power", desc := "(II)I" } : Jvm.MethodName) prog_14_method_22_code (3 : Nat) (Option.some Jvm.ClassFile.FieldType.int)) ∈ ALLG := tk7 107 rfl rfl
theorem w638 : (Jvm.Cond.methodLink "MillBoatsLaw" (55 : Nat) ({ cls := "MillBoats", name := "pull", desc := "(IIZ)I" } : Jvm.MethodName)) ∈ ALLG := tk3 158 rfl rfl
theorem w639 : (Jvm.Cond.instanceMethod ({ cls := "MillBoats", name := "pull", desc := "(IIZ)I" } : Jvm.MethodName)) ∈ ALLG := tk3 159 rfl rfl
theorem w640 : (Jvm.Cond.selects "MillBoats" ({ cls := "MillBoats", name := "pull", desc := "(IIZ)I" } : Jvm.MethodName) ({ cls := "MillBoats", name := "pull", desc := "(IIZ)I" } : Jvm.MethodName)) ∈ ALLG := tk3 160 rfl rfl
theorem w641 : (Jvm.Cond.code ({ cls := "MillBoats", name := "pull", desc := "(IIZ)I" } : Jvm.MethodName) prog_1_method_10_code (4 : Nat) (Option.some Jvm.ClassFile.FieldType.int)) ∈ ALLG := tk3 161 rfl rfl
theorem w1564 : (Jvm.Cond.methodLink "MillBoatsLaw" (59 : Nat) ({ cls := "MillBoatsModel", name := "pull", desc := "(IIZ)I" } : Jvm.MethodName)) ∈ ALLG := tk7 124 rfl rfl
theorem w1565 : (Jvm.Cond.instanceMethod ({ cls := "MillBoatsModel", name := "pull", desc := "(IIZ)I" } : Jvm.MethodName)) ∈ ALLG := tk7 125 rfl rfl
theorem w1566 : (Jvm.Cond.selects "MillBoatsModel" ({ cls := "MillBoatsModel", name := "pull", desc := "(IIZ)I" } : Jvm.MethodName) ({ cls := "MillBoatsModel", name := "pull", desc := "(IIZ)I" } : Jvm.MethodName)) ∈ ALLG := tk7 126 rfl rfl
theorem w1567 : (Jvm.Cond.code ({ cls := "MillBoatsModel", name := "pull", desc := "(IIZ)I" } : Jvm.MethodName) prog_14_method_23_code (4 : Nat) (Option.some Jvm.ClassFile.FieldType.int)) ∈ ALLG := tk7 127 rfl rfl
theorem w646 : (Jvm.Cond.methodLink "MillBoatsLaw" (60 : Nat) ({ cls := "MillBoats", name := "loss", desc := "(III)I" } : Jvm.MethodName)) ∈ ALLG := tk3 166 rfl rfl
theorem w647 : (Jvm.Cond.instanceMethod ({ cls := "MillBoats", name := "loss", desc := "(III)I" } : Jvm.MethodName)) ∈ ALLG := tk3 167 rfl rfl
theorem w648 : (Jvm.Cond.selects "MillBoats" ({ cls := "MillBoats", name := "loss", desc := "(III)I" } : Jvm.MethodName) ({ cls := "MillBoats", name := "loss", desc := "(III)I" } : Jvm.MethodName)) ∈ ALLG := tk3 168 rfl rfl
theorem w649 : (Jvm.Cond.code ({ cls := "MillBoats", name := "loss", desc := "(III)I" } : Jvm.MethodName) prog_1_method_11_code (5 : Nat) (Option.some Jvm.ClassFile.FieldType.int)) ∈ ALLG := tk3 169 rfl rfl
theorem w1572 : (Jvm.Cond.methodLink "MillBoatsLaw" (63 : Nat) ({ cls := "MillBoatsModel", name := "loss", desc := "(III)I" } : Jvm.MethodName)) ∈ ALLG := tk7 132 rfl rfl
theorem w1573 : (Jvm.Cond.instanceMethod ({ cls := "MillBoatsModel", name := "loss", desc := "(III)I" } : Jvm.MethodName)) ∈ ALLG := tk7 133 rfl rfl
theorem w1574 : (Jvm.Cond.selects "MillBoatsModel" ({ cls := "MillBoatsModel", name := "loss", desc := "(III)I" } : Jvm.MethodName) ({ cls := "MillBoatsModel", name := "loss", desc := "(III)I" } : Jvm.MethodName)) ∈ ALLG := tk7 134 rfl rfl
theorem w1575 : (Jvm.Cond.code ({ cls := "MillBoatsModel", name := "loss", desc := "(III)I" } : Jvm.MethodName) prog_14_method_24_code (7 : Nat) (Option.some Jvm.ClassFile.FieldType.int)) ∈ ALLG := tk7 135 rfl rfl
theorem w658 : (Jvm.Cond.methodLink "MillBoatsLaw" (64 : Nat) ({ cls := "MillBoats", name := "height", desc := "(II)Z" } : Jvm.MethodName)) ∈ ALLG := tk3 178 rfl rfl
theorem w659 : (Jvm.Cond.instanceMethod ({ cls := "MillBoats", name := "height", desc := "(II)Z" } : Jvm.MethodName)) ∈ ALLG := tk3 179 rfl rfl
theorem w660 : (Jvm.Cond.selects "MillBoats" ({ cls := "MillBoats", name := "height", desc := "(II)Z" } : Jvm.MethodName) ({ cls := "MillBoats", name := "height", desc := "(II)Z" } : Jvm.MethodName)) ∈ ALLG := tk3 180 rfl rfl
theorem w661 : (Jvm.Cond.code ({ cls := "MillBoats", name := "height", desc := "(II)Z" } : Jvm.MethodName) prog_1_method_12_code (3 : Nat) (Option.some Jvm.ClassFile.FieldType.boolean)) ∈ ALLG := tk3 181 rfl rfl
theorem w1576 : (Jvm.Cond.methodLink "MillBoatsLaw" (67 : Nat) ({ cls := "MillBoatsModel", name := "height", desc := "(II)Z" } : Jvm.MethodName)) ∈ ALLG := tk7 136 rfl rfl
theorem w1577 : (Jvm.Cond.instanceMethod ({ cls := "MillBoatsModel", name := "height", desc := "(II)Z" } : Jvm.MethodName)) ∈ ALLG := tk7 137 rfl rfl
theorem w1578 : (Jvm.Cond.selects "MillBoatsModel" ({ cls := "MillBoatsModel", name := "height", desc := "(II)Z" } : Jvm.MethodName) ({ cls := "MillBoatsModel", name := "height", desc := "(II)Z" } : Jvm.MethodName)) ∈ ALLG := tk7 138 rfl rfl
theorem w1579 : (Jvm.Cond.code ({ cls := "MillBoatsModel", name := "height", desc := "(II)Z" } : Jvm.MethodName) prog_14_method_26_code (3 : Nat) (Option.some Jvm.ClassFile.FieldType.boolean)) ∈ ALLG := tk7 139 rfl rfl
theorem w669 : (Jvm.Cond.methodLink "MillBoatsLaw" (68 : Nat) ({ cls := "MillBoats", name := "ice", desc := "(IZ)Z" } : Jvm.MethodName)) ∈ ALLG := tk3 189 rfl rfl
theorem w670 : (Jvm.Cond.instanceMethod ({ cls := "MillBoats", name := "ice", desc := "(IZ)Z" } : Jvm.MethodName)) ∈ ALLG := tk3 190 rfl rfl
theorem w671 : (Jvm.Cond.selects "MillBoats" ({ cls := "MillBoats", name := "ice", desc := "(IZ)Z" } : Jvm.MethodName) ({ cls := "MillBoats", name := "ice", desc := "(IZ)Z" } : Jvm.MethodName)) ∈ ALLG := tk3 191 rfl rfl
theorem w672 : (Jvm.Cond.code ({ cls := "MillBoats", name := "ice", desc := "(IZ)Z" } : Jvm.MethodName) prog_1_method_13_code (3 : Nat) (Option.some Jvm.ClassFile.FieldType.boolean)) ∈ ALLG := tk3 192 rfl rfl
theorem w1583 : (Jvm.Cond.methodLink "MillBoatsLaw" (72 : Nat) ({ cls := "MillBoatsModel", name := "ice", desc := "(IZ)Z" } : Jvm.MethodName)) ∈ ALLG := tk7 143 rfl rfl
theorem w1584 : (Jvm.Cond.instanceMethod ({ cls := "MillBoatsModel", name := "ice", desc := "(IZ)Z" } : Jvm.MethodName)) ∈ ALLG := tk7 144 rfl rfl
theorem w1585 : (Jvm.Cond.selects "MillBoatsModel" ({ cls := "MillBoatsModel", name := "ice", desc := "(IZ)Z" } : Jvm.MethodName) ({ cls := "MillBoatsModel", name := "ice", desc := "(IZ)Z" } : Jvm.MethodName)) ∈ ALLG := tk7 145 rfl rfl
theorem w1586 : (Jvm.Cond.code ({ cls := "MillBoatsModel", name := "ice", desc := "(IZ)Z" } : Jvm.MethodName) prog_14_method_27_code (3 : Nat) (Option.some Jvm.ClassFile.FieldType.boolean)) ∈ ALLG := tk7 146 rfl rfl
theorem w673 : (Jvm.Cond.methodLink "MillBoatsLaw" (73 : Nat) ({ cls := "MillBoats", name := "heightOf", desc := "(II)I" } : Jvm.MethodName)) ∈ ALLG := tk3 193 rfl rfl
theorem w674 : (Jvm.Cond.instanceMethod ({ cls := "MillBoats", name := "heightOf", desc := "(II)I" } : Jvm.MethodName)) ∈ ALLG := tk3 194 rfl rfl
theorem w675 : (Jvm.Cond.selects "MillBoats" ({ cls := "MillBoats", name := "heightOf", desc := "(II)I" } : Jvm.MethodName) ({ cls := "MillBoats", name := "heightOf", desc := "(II)I" } : Jvm.MethodName)) ∈ ALLG := tk3 195 rfl rfl
theorem w676 : (Jvm.Cond.code ({ cls := "MillBoats", name := "heightOf", desc := "(II)I" } : Jvm.MethodName) prog_1_method_14_code (3 : Nat) (Option.some Jvm.ClassFile.FieldType.int)) ∈ ALLG := tk3 196 rfl rfl
theorem w1587 : (Jvm.Cond.methodLink "MillBoatsLaw" (76 : Nat) ({ cls := "MillBoatsModel", name := "heightOf", desc := "(II)I" } : Jvm.MethodName)) ∈ ALLG := tk7 147 rfl rfl
theorem w1588 : (Jvm.Cond.instanceMethod ({ cls := "MillBoatsModel", name := "heightOf", desc := "(II)I" } : Jvm.MethodName)) ∈ ALLG := tk7 148 rfl rfl
theorem w1589 : (Jvm.Cond.selects "MillBoatsModel" ({ cls := "MillBoatsModel", name := "heightOf", desc := "(II)I" } : Jvm.MethodName) ({ cls := "MillBoatsModel", name := "heightOf", desc := "(II)I" } : Jvm.MethodName)) ∈ ALLG := tk7 149 rfl rfl
theorem w1590 : (Jvm.Cond.code ({ cls := "MillBoatsModel", name := "heightOf", desc := "(II)I" } : Jvm.MethodName) prog_14_method_31_code (3 : Nat) (Option.some Jvm.ClassFile.FieldType.int)) ∈ ALLG := tk7 150 rfl rfl
theorem w689 : (Jvm.Cond.methodLink "MillBoatsLaw" (77 : Nat) ({ cls := "MillBoats", name := "iceOf", desc := "(II)I" } : Jvm.MethodName)) ∈ ALLG := tk3 209 rfl rfl
theorem w690 : (Jvm.Cond.instanceMethod ({ cls := "MillBoats", name := "iceOf", desc := "(II)I" } : Jvm.MethodName)) ∈ ALLG := tk3 210 rfl rfl
theorem w691 : (Jvm.Cond.selects "MillBoats" ({ cls := "MillBoats", name := "iceOf", desc := "(II)I" } : Jvm.MethodName) ({ cls := "MillBoats", name := "iceOf", desc := "(II)I" } : Jvm.MethodName)) ∈ ALLG := tk3 211 rfl rfl
theorem w692 : (Jvm.Cond.code ({ cls := "MillBoats", name := "iceOf", desc := "(II)I" } : Jvm.MethodName) prog_1_method_15_code (3 : Nat) (Option.some Jvm.ClassFile.FieldType.int)) ∈ ALLG := tk3 212 rfl rfl
theorem w1599 : (Jvm.Cond.methodLink "MillBoatsLaw" (80 : Nat) ({ cls := "MillBoatsModel", name := "iceOf", desc := "(II)I" } : Jvm.MethodName)) ∈ ALLG := tk7 159 rfl rfl
theorem w1600 : (Jvm.Cond.instanceMethod ({ cls := "MillBoatsModel", name := "iceOf", desc := "(II)I" } : Jvm.MethodName)) ∈ ALLG := tk7 160 rfl rfl
theorem w1601 : (Jvm.Cond.selects "MillBoatsModel" ({ cls := "MillBoatsModel", name := "iceOf", desc := "(II)I" } : Jvm.MethodName) ({ cls := "MillBoatsModel", name := "iceOf", desc := "(II)I" } : Jvm.MethodName)) ∈ ALLG := tk7 161 rfl rfl
theorem w1602 : (Jvm.Cond.code ({ cls := "MillBoatsModel", name := "iceOf", desc := "(II)I" } : Jvm.MethodName) prog_14_method_32_code (3 : Nat) (Option.some Jvm.ClassFile.FieldType.int)) ∈ ALLG := tk7 162 rfl rfl
theorem w697 : (Jvm.Cond.methodLink "MillBoatsLaw" (81 : Nat) ({ cls := "MillBoats", name := "feed", desc := "(IIIII)I" } : Jvm.MethodName)) ∈ ALLG := tk3 217 rfl rfl
theorem w698 : (Jvm.Cond.instanceMethod ({ cls := "MillBoats", name := "feed", desc := "(IIIII)I" } : Jvm.MethodName)) ∈ ALLG := tk3 218 rfl rfl
theorem w699 : (Jvm.Cond.selects "MillBoats" ({ cls := "MillBoats", name := "feed", desc := "(IIIII)I" } : Jvm.MethodName) ({ cls := "MillBoats", name := "feed", desc := "(IIIII)I" } : Jvm.MethodName)) ∈ ALLG := tk3 219 rfl rfl
theorem w700 : (Jvm.Cond.code ({ cls := "MillBoats", name := "feed", desc := "(IIIII)I" } : Jvm.MethodName) prog_1_method_16_code (6 : Nat) (Option.some Jvm.ClassFile.FieldType.int)) ∈ ALLG := tk3 220 rfl rfl
theorem w1607 : (Jvm.Cond.methodLink "MillBoatsLaw" (85 : Nat) ({ cls := "MillBoatsModel", name := "feed", desc := "(IIIII)I" } : Jvm.MethodName)) ∈ ALLG := tk7 167 rfl rfl
theorem w1608 : (Jvm.Cond.instanceMethod ({ cls := "MillBoatsModel", name := "feed", desc := "(IIIII)I" } : Jvm.MethodName)) ∈ ALLG := tk7 168 rfl rfl
theorem w1609 : (Jvm.Cond.selects "MillBoatsModel" ({ cls := "MillBoatsModel", name := "feed", desc := "(IIIII)I" } : Jvm.MethodName) ({ cls := "MillBoatsModel", name := "feed", desc := "(IIIII)I" } : Jvm.MethodName)) ∈ ALLG := tk7 169 rfl rfl
theorem w1610 : (Jvm.Cond.code ({ cls := "MillBoatsModel", name := "feed", desc := "(IIIII)I" } : Jvm.MethodName) prog_14_method_33_code (8 : Nat) (Option.some Jvm.ClassFile.FieldType.int)) ∈ ALLG := tk7 170 rfl rfl
theorem w705 : (Jvm.Cond.methodLink "MillBoatsLaw" (86 : Nat) ({ cls := "MillBoats", name := "end", desc := "(I)I" } : Jvm.MethodName)) ∈ ALLG := tk3 225 rfl rfl
theorem w706 : (Jvm.Cond.instanceMethod ({ cls := "MillBoats", name := "end", desc := "(I)I" } : Jvm.MethodName)) ∈ ALLG := tk3 226 rfl rfl
theorem w707 : (Jvm.Cond.selects "MillBoats" ({ cls := "MillBoats", name := "end", desc := "(I)I" } : Jvm.MethodName) ({ cls := "MillBoats", name := "end", desc := "(I)I" } : Jvm.MethodName)) ∈ ALLG := tk3 227 rfl rfl
theorem w708 : (Jvm.Cond.code ({ cls := "MillBoats", name := "end", desc := "(I)I" } : Jvm.MethodName) prog_1_method_17_code (2 : Nat) (Option.some Jvm.ClassFile.FieldType.int)) ∈ ALLG := tk3 228 rfl rfl
theorem w1611 : (Jvm.Cond.methodLink "MillBoatsLaw" (90 : Nat) ({ cls := "MillBoatsModel", name := "end", desc := "(I)I" } : Jvm.MethodName)) ∈ ALLG := tk7 171 rfl rfl
theorem w1612 : (Jvm.Cond.instanceMethod ({ cls := "MillBoatsModel", name := "end", desc := "(I)I" } : Jvm.MethodName)) ∈ ALLG := tk7 172 rfl rfl
theorem w1613 : (Jvm.Cond.selects "MillBoatsModel" ({ cls := "MillBoatsModel", name := "end", desc := "(I)I" } : Jvm.MethodName) ({ cls := "MillBoatsModel", name := "end", desc := "(I)I" } : Jvm.MethodName)) ∈ ALLG := tk7 173 rfl rfl
theorem w1614 : (Jvm.Cond.code ({ cls := "MillBoatsModel", name := "end", desc := "(I)I" } : Jvm.MethodName) prog_14_method_34_code (2 : Nat) (Option.some Jvm.ClassFile.FieldType.int)) ∈ ALLG := tk7 174 rfl rfl
theorem w709 : (Jvm.Cond.methodLink "MillBoatsLaw" (91 : Nat) ({ cls := "MillBoats", name := "rules", desc := "(II)I" } : Jvm.MethodName)) ∈ ALLG := tk3 229 rfl rfl
theorem w710 : (Jvm.Cond.instanceMethod ({ cls := "MillBoats", name := "rules", desc := "(II)I" } : Jvm.MethodName)) ∈ ALLG := tk3 230 rfl rfl
theorem w711 : (Jvm.Cond.selects "MillBoats" ({ cls := "MillBoats", name := "rules", desc := "(II)I" } : Jvm.MethodName) ({ cls := "MillBoats", name := "rules", desc := "(II)I" } : Jvm.MethodName)) ∈ ALLG := tk3 231 rfl rfl
theorem w712 : (Jvm.Cond.code ({ cls := "MillBoats", name := "rules", desc := "(II)I" } : Jvm.MethodName) prog_1_method_18_code (4 : Nat) (Option.some Jvm.ClassFile.FieldType.int)) ∈ ALLG := tk3 232 rfl rfl
theorem w1615 : (Jvm.Cond.methodLink "MillBoatsLaw" (94 : Nat) ({ cls := "MillBoatsModel", name := "rules", desc := "(II)I" } : Jvm.MethodName)) ∈ ALLG := tk7 175 rfl rfl
theorem w1616 : (Jvm.Cond.instanceMethod ({ cls := "MillBoatsModel", name := "rules", desc := "(II)I" } : Jvm.MethodName)) ∈ ALLG := tk7 176 rfl rfl
theorem w1617 : (Jvm.Cond.selects "MillBoatsModel" ({ cls := "MillBoatsModel", name := "rules", desc := "(II)I" } : Jvm.MethodName) ({ cls := "MillBoatsModel", name := "rules", desc := "(II)I" } : Jvm.MethodName)) ∈ ALLG := tk7 177 rfl rfl
theorem w1618 : (Jvm.Cond.code ({ cls := "MillBoatsModel", name := "rules", desc := "(II)I" } : Jvm.MethodName) prog_14_method_62_code (4 : Nat) (Option.some Jvm.ClassFile.FieldType.int)) ∈ ALLG := tk7 178 rfl rfl
theorem w848 : (Jvm.Cond.methodLink "MillBoatsLaw" (95 : Nat) ({ cls := "MillBoats", name := "place", desc := "()I" } : Jvm.MethodName)) ∈ ALLG := tk4 128 rfl rfl
theorem w849 : (Jvm.Cond.instanceMethod ({ cls := "MillBoats", name := "place", desc := "()I" } : Jvm.MethodName)) ∈ ALLG := tk4 129 rfl rfl
theorem w850 : (Jvm.Cond.selects "MillBoats" ({ cls := "MillBoats", name := "place", desc := "()I" } : Jvm.MethodName) ({ cls := "MillBoats", name := "place", desc := "()I" } : Jvm.MethodName)) ∈ ALLG := tk4 130 rfl rfl
theorem w851 : (Jvm.Cond.code ({ cls := "MillBoats", name := "place", desc := "()I" } : Jvm.MethodName) prog_1_method_19_code (1 : Nat) (Option.some Jvm.ClassFile.FieldType.int)) ∈ ALLG := tk4 131 rfl rfl
theorem w1746 : (Jvm.Cond.methodLink "MillBoatsLaw" (99 : Nat) ({ cls := "MillBoatsModel", name := "place", desc := "()I" } : Jvm.MethodName)) ∈ ALLG := tk8 66 rfl rfl
theorem w1747 : (Jvm.Cond.instanceMethod ({ cls := "MillBoatsModel", name := "place", desc := "()I" } : Jvm.MethodName)) ∈ ALLG := tk8 67 rfl rfl
theorem w1748 : (Jvm.Cond.selects "MillBoatsModel" ({ cls := "MillBoatsModel", name := "place", desc := "()I" } : Jvm.MethodName) ({ cls := "MillBoatsModel", name := "place", desc := "()I" } : Jvm.MethodName)) ∈ ALLG := tk8 68 rfl rfl
theorem w1749 : (Jvm.Cond.code ({ cls := "MillBoatsModel", name := "place", desc := "()I" } : Jvm.MethodName) prog_14_method_63_code (1 : Nat) (Option.some Jvm.ClassFile.FieldType.int)) ∈ ALLG := tk8 69 rfl rfl
theorem w852 : (Jvm.Cond.methodLink "MillBoatsLaw" (100 : Nat) ({ cls := "MillBoats", name := "barred", desc := "(IIII)I" } : Jvm.MethodName)) ∈ ALLG := tk4 132 rfl rfl
theorem w853 : (Jvm.Cond.instanceMethod ({ cls := "MillBoats", name := "barred", desc := "(IIII)I" } : Jvm.MethodName)) ∈ ALLG := tk4 133 rfl rfl
theorem w854 : (Jvm.Cond.selects "MillBoats" ({ cls := "MillBoats", name := "barred", desc := "(IIII)I" } : Jvm.MethodName) ({ cls := "MillBoats", name := "barred", desc := "(IIII)I" } : Jvm.MethodName)) ∈ ALLG := tk4 134 rfl rfl
theorem w855 : (Jvm.Cond.code ({ cls := "MillBoats", name := "barred", desc := "(IIII)I" } : Jvm.MethodName) prog_1_method_20_code (5 : Nat) (Option.some Jvm.ClassFile.FieldType.int)) ∈ ALLG := tk4 135 rfl rfl
theorem w1750 : (Jvm.Cond.methodLink "MillBoatsLaw" (104 : Nat) ({ cls := "MillBoatsModel", name := "barred", desc := "(IIII)I" } : Jvm.MethodName)) ∈ ALLG := tk8 70 rfl rfl
theorem w1751 : (Jvm.Cond.instanceMethod ({ cls := "MillBoatsModel", name := "barred", desc := "(IIII)I" } : Jvm.MethodName)) ∈ ALLG := tk8 71 rfl rfl
theorem w1752 : (Jvm.Cond.selects "MillBoatsModel" ({ cls := "MillBoatsModel", name := "barred", desc := "(IIII)I" } : Jvm.MethodName) ({ cls := "MillBoatsModel", name := "barred", desc := "(IIII)I" } : Jvm.MethodName)) ∈ ALLG := tk8 72 rfl rfl
theorem w1753 : (Jvm.Cond.code ({ cls := "MillBoatsModel", name := "barred", desc := "(IIII)I" } : Jvm.MethodName) prog_14_method_75_code (5 : Nat) (Option.some Jvm.ClassFile.FieldType.int)) ∈ ALLG := tk8 73 rfl rfl
theorem w898 : (Jvm.Cond.methodLink "MillBoatsLaw" (105 : Nat) ({ cls := "MillBoats", name := "word", desc := "(IIIII)I" } : Jvm.MethodName)) ∈ ALLG := tk4 178 rfl rfl
theorem w899 : (Jvm.Cond.instanceMethod ({ cls := "MillBoats", name := "word", desc := "(IIIII)I" } : Jvm.MethodName)) ∈ ALLG := tk4 179 rfl rfl
theorem w900 : (Jvm.Cond.selects "MillBoats" ({ cls := "MillBoats", name := "word", desc := "(IIIII)I" } : Jvm.MethodName) ({ cls := "MillBoats", name := "word", desc := "(IIIII)I" } : Jvm.MethodName)) ∈ ALLG := tk4 180 rfl rfl
theorem w901 : (Jvm.Cond.code ({ cls := "MillBoats", name := "word", desc := "(IIIII)I" } : Jvm.MethodName) prog_1_method_21_code (6 : Nat) (Option.some Jvm.ClassFile.FieldType.int)) ∈ ALLG := tk4 181 rfl rfl
theorem w1795 : (Jvm.Cond.methodLink "MillBoatsLaw" (108 : Nat) ({ cls := "MillBoatsModel", name := "word", desc := "(IIIII)I" } : Jvm.MethodName)) ∈ ALLG := tk8 115 rfl rfl
theorem w1796 : (Jvm.Cond.instanceMethod ({ cls := "MillBoatsModel", name := "word", desc := "(IIIII)I" } : Jvm.MethodName)) ∈ ALLG := tk8 116 rfl rfl
theorem w1797 : (Jvm.Cond.selects "MillBoatsModel" ({ cls := "MillBoatsModel", name := "word", desc := "(IIIII)I" } : Jvm.MethodName) ({ cls := "MillBoatsModel", name := "word", desc := "(IIIII)I" } : Jvm.MethodName)) ∈ ALLG := tk8 117 rfl rfl
theorem w1798 : (Jvm.Cond.code ({ cls := "MillBoatsModel", name := "word", desc := "(IIIII)I" } : Jvm.MethodName) prog_14_method_76_code (6 : Nat) (Option.some Jvm.ClassFile.FieldType.int)) ∈ ALLG := tk8 118 rfl rfl
theorem w906 : (Jvm.Cond.methodLink "MillBoatsLaw" (109 : Nat) ({ cls := "MillBoats", name := "way", desc := "(III)I" } : Jvm.MethodName)) ∈ ALLG := tk4 186 rfl rfl
theorem w907 : (Jvm.Cond.instanceMethod ({ cls := "MillBoats", name := "way", desc := "(III)I" } : Jvm.MethodName)) ∈ ALLG := tk4 187 rfl rfl
theorem w908 : (Jvm.Cond.selects "MillBoats" ({ cls := "MillBoats", name := "way", desc := "(III)I" } : Jvm.MethodName) ({ cls := "MillBoats", name := "way", desc := "(III)I" } : Jvm.MethodName)) ∈ ALLG := tk4 188 rfl rfl
theorem w909 : (Jvm.Cond.code ({ cls := "MillBoats", name := "way", desc := "(III)I" } : Jvm.MethodName) prog_1_method_22_code (4 : Nat) (Option.some Jvm.ClassFile.FieldType.int)) ∈ ALLG := tk4 189 rfl rfl
theorem w1799 : (Jvm.Cond.methodLink "MillBoatsLaw" (112 : Nat) ({ cls := "MillBoatsModel", name := "way", desc := "(III)I" } : Jvm.MethodName)) ∈ ALLG := tk8 119 rfl rfl
theorem w1800 : (Jvm.Cond.instanceMethod ({ cls := "MillBoatsModel", name := "way", desc := "(III)I" } : Jvm.MethodName)) ∈ ALLG := tk8 120 rfl rfl
theorem w1801 : (Jvm.Cond.selects "MillBoatsModel" ({ cls := "MillBoatsModel", name := "way", desc := "(III)I" } : Jvm.MethodName) ({ cls := "MillBoatsModel", name := "way", desc := "(III)I" } : Jvm.MethodName)) ∈ ALLG := tk8 121 rfl rfl
theorem w1802 : (Jvm.Cond.code ({ cls := "MillBoatsModel", name := "way", desc := "(III)I" } : Jvm.MethodName) prog_14_method_78_code (4 : Nat) (Option.some Jvm.ClassFile.FieldType.int)) ∈ ALLG := tk8 122 rfl rfl
theorem w923 : (Jvm.Cond.methodLink "MillBoatsLaw" (113 : Nat) ({ cls := "MillBoats", name := "kept", desc := "(I)I" } : Jvm.MethodName)) ∈ ALLG := tk4 203 rfl rfl
theorem w924 : (Jvm.Cond.instanceMethod ({ cls := "MillBoats", name := "kept", desc := "(I)I" } : Jvm.MethodName)) ∈ ALLG := tk4 204 rfl rfl
theorem w925 : (Jvm.Cond.selects "MillBoats" ({ cls := "MillBoats", name := "kept", desc := "(I)I" } : Jvm.MethodName) ({ cls := "MillBoats", name := "kept", desc := "(I)I" } : Jvm.MethodName)) ∈ ALLG := tk4 205 rfl rfl
theorem w926 : (Jvm.Cond.code ({ cls := "MillBoats", name := "kept", desc := "(I)I" } : Jvm.MethodName) prog_1_method_23_code (3 : Nat) (Option.some Jvm.ClassFile.FieldType.int)) ∈ ALLG := tk4 206 rfl rfl
theorem w1807 : (Jvm.Cond.methodLink "MillBoatsLaw" (116 : Nat) ({ cls := "MillBoatsModel", name := "kept", desc := "(I)I" } : Jvm.MethodName)) ∈ ALLG := tk8 127 rfl rfl
theorem w1808 : (Jvm.Cond.instanceMethod ({ cls := "MillBoatsModel", name := "kept", desc := "(I)I" } : Jvm.MethodName)) ∈ ALLG := tk8 128 rfl rfl
theorem w1809 : (Jvm.Cond.selects "MillBoatsModel" ({ cls := "MillBoatsModel", name := "kept", desc := "(I)I" } : Jvm.MethodName) ({ cls := "MillBoatsModel", name := "kept", desc := "(I)I" } : Jvm.MethodName)) ∈ ALLG := tk8 129 rfl rfl
theorem w1810 : (Jvm.Cond.code ({ cls := "MillBoatsModel", name := "kept", desc := "(I)I" } : Jvm.MethodName) prog_14_method_80_code (2 : Nat) (Option.some Jvm.ClassFile.FieldType.int)) ∈ ALLG := tk8 130 rfl rfl
theorem w936 : (Jvm.Cond.methodLink "MillBoatsLaw" (117 : Nat) ({ cls := "MillBoats", name := "skiffs", desc := "(II)Z" } : Jvm.MethodName)) ∈ ALLG := tk4 216 rfl rfl
theorem w937 : (Jvm.Cond.instanceMethod ({ cls := "MillBoats", name := "skiffs", desc := "(II)Z" } : Jvm.MethodName)) ∈ ALLG := tk4 217 rfl rfl
theorem w938 : (Jvm.Cond.selects "MillBoats" ({ cls := "MillBoats", name := "skiffs", desc := "(II)Z" } : Jvm.MethodName) ({ cls := "MillBoats", name := "skiffs", desc := "(II)Z" } : Jvm.MethodName)) ∈ ALLG := tk4 218 rfl rfl
theorem w939 : (Jvm.Cond.code ({ cls := "MillBoats", name := "skiffs", desc := "(II)Z" } : Jvm.MethodName) prog_1_method_24_code (3 : Nat) (Option.some Jvm.ClassFile.FieldType.boolean)) ∈ ALLG := tk4 219 rfl rfl
theorem w1819 : (Jvm.Cond.methodLink "MillBoatsLaw" (120 : Nat) ({ cls := "MillBoatsModel", name := "skiffs", desc := "(II)Z" } : Jvm.MethodName)) ∈ ALLG := tk8 139 rfl rfl
theorem w1820 : (Jvm.Cond.instanceMethod ({ cls := "MillBoatsModel", name := "skiffs", desc := "(II)Z" } : Jvm.MethodName)) ∈ ALLG := tk8 140 rfl rfl
theorem w1821 : (Jvm.Cond.selects "MillBoatsModel" ({ cls := "MillBoatsModel", name := "skiffs", desc := "(II)Z" } : Jvm.MethodName) ({ cls := "MillBoatsModel", name := "skiffs", desc := "(II)Z" } : Jvm.MethodName)) ∈ ALLG := tk8 141 rfl rfl
theorem w1822 : (Jvm.Cond.code ({ cls := "MillBoatsModel", name := "skiffs", desc := "(II)Z" } : Jvm.MethodName) prog_14_method_86_code (3 : Nat) (Option.some Jvm.ClassFile.FieldType.boolean)) ∈ ALLG := tk8 142 rfl rfl
theorem w940 : (Jvm.Cond.methodLink "MillBoatsLaw" (121 : Nat) ({ cls := "MillBoats", name := "order", desc := "(II)I" } : Jvm.MethodName)) ∈ ALLG := tk4 220 rfl rfl
theorem w941 : (Jvm.Cond.instanceMethod ({ cls := "MillBoats", name := "order", desc := "(II)I" } : Jvm.MethodName)) ∈ ALLG := tk4 221 rfl rfl
theorem w942 : (Jvm.Cond.selects "MillBoats" ({ cls := "MillBoats", name := "order", desc := "(II)I" } : Jvm.MethodName) ({ cls := "MillBoats", name := "order", desc := "(II)I" } : Jvm.MethodName)) ∈ ALLG := tk4 222 rfl rfl
theorem w943 : (Jvm.Cond.code ({ cls := "MillBoats", name := "order", desc := "(II)I" } : Jvm.MethodName) prog_1_method_25_code (3 : Nat) (Option.some Jvm.ClassFile.FieldType.int)) ∈ ALLG := tk4 223 rfl rfl
theorem w1823 : (Jvm.Cond.methodLink "MillBoatsLaw" (124 : Nat) ({ cls := "MillBoatsModel", name := "order", desc := "(II)I" } : Jvm.MethodName)) ∈ ALLG := tk8 143 rfl rfl
theorem w1824 : (Jvm.Cond.instanceMethod ({ cls := "MillBoatsModel", name := "order", desc := "(II)I" } : Jvm.MethodName)) ∈ ALLG := tk8 144 rfl rfl
theorem w1825 : (Jvm.Cond.selects "MillBoatsModel" ({ cls := "MillBoatsModel", name := "order", desc := "(II)I" } : Jvm.MethodName) ({ cls := "MillBoatsModel", name := "order", desc := "(II)I" } : Jvm.MethodName)) ∈ ALLG := tk8 145 rfl rfl
theorem w1826 : (Jvm.Cond.code ({ cls := "MillBoatsModel", name := "order", desc := "(II)I" } : Jvm.MethodName) prog_14_method_87_code (3 : Nat) (Option.some Jvm.ClassFile.FieldType.int)) ∈ ALLG := tk8 146 rfl rfl
theorem w948 : (Jvm.Cond.methodLink "MillBoatsLaw" (125 : Nat) ({ cls := "MillBoats", name := "day", desc := "()I" } : Jvm.MethodName)) ∈ ALLG := tk4 228 rfl rfl
theorem w949 : (Jvm.Cond.instanceMethod ({ cls := "MillBoats", name := "day", desc := "()I" } : Jvm.MethodName)) ∈ ALLG := tk4 229 rfl rfl
theorem w950 : (Jvm.Cond.selects "MillBoats" ({ cls := "MillBoats", name := "day", desc := "()I" } : Jvm.MethodName) ({ cls := "MillBoats", name := "day", desc := "()I" } : Jvm.MethodName)) ∈ ALLG := tk4 230 rfl rfl
theorem w951 : (Jvm.Cond.code ({ cls := "MillBoats", name := "day", desc := "()I" } : Jvm.MethodName) prog_1_method_26_code (2 : Nat) (Option.some Jvm.ClassFile.FieldType.int)) ∈ ALLG := tk4 231 rfl rfl
theorem w1827 : (Jvm.Cond.methodLink "MillBoatsLaw" (128 : Nat) ({ cls := "MillBoatsModel", name := "day", desc := "()I" } : Jvm.MethodName)) ∈ ALLG := tk8 147 rfl rfl
theorem w1828 : (Jvm.Cond.instanceMethod ({ cls := "MillBoatsModel", name := "day", desc := "()I" } : Jvm.MethodName)) ∈ ALLG := tk8 148 rfl rfl
theorem w1829 : (Jvm.Cond.selects "MillBoatsModel" ({ cls := "MillBoatsModel", name := "day", desc := "()I" } : Jvm.MethodName) ({ cls := "MillBoatsModel", name := "day", desc := "()I" } : Jvm.MethodName)) ∈ ALLG := tk8 149 rfl rfl
theorem w1830 : (Jvm.Cond.code ({ cls := "MillBoatsModel", name := "day", desc := "()I" } : Jvm.MethodName) prog_14_method_90_code (3 : Nat) (Option.some Jvm.ClassFile.FieldType.int)) ∈ ALLG := tk8 150 rfl rfl
theorem w1004 : (Jvm.Cond.methodLink "MillBoatsLaw" (129 : Nat) ({ cls := "MillBoats", name := "event", desc := "(II)I" } : Jvm.MethodName)) ∈ ALLG := tk5 44 rfl rfl
theorem w1005 : (Jvm.Cond.instanceMethod ({ cls := "MillBoats", name := "event", desc := "(II)I" } : Jvm.MethodName)) ∈ ALLG := tk5 45 rfl rfl
theorem w1006 : (Jvm.Cond.selects "MillBoats" ({ cls := "MillBoats", name := "event", desc := "(II)I" } : Jvm.MethodName) ({ cls := "MillBoats", name := "event", desc := "(II)I" } : Jvm.MethodName)) ∈ ALLG := tk5 46 rfl rfl
theorem w1007 : (Jvm.Cond.code ({ cls := "MillBoats", name := "event", desc := "(II)I" } : Jvm.MethodName) prog_1_method_27_code (3 : Nat) (Option.some Jvm.ClassFile.FieldType.int)) ∈ ALLG := tk5 47 rfl rfl
theorem w1815 : (Jvm.Cond.methodLink "MillBoatsLaw" (132 : Nat) ({ cls := "MillBoatsModel", name := "event", desc := "(II)I" } : Jvm.MethodName)) ∈ ALLG := tk8 135 rfl rfl
theorem w1816 : (Jvm.Cond.instanceMethod ({ cls := "MillBoatsModel", name := "event", desc := "(II)I" } : Jvm.MethodName)) ∈ ALLG := tk8 136 rfl rfl
theorem w1817 : (Jvm.Cond.selects "MillBoatsModel" ({ cls := "MillBoatsModel", name := "event", desc := "(II)I" } : Jvm.MethodName) ({ cls := "MillBoatsModel", name := "event", desc := "(II)I" } : Jvm.MethodName)) ∈ ALLG := tk8 137 rfl rfl
theorem w1818 : (Jvm.Cond.code ({ cls := "MillBoatsModel", name := "event", desc := "(II)I" } : Jvm.MethodName) prog_14_method_82_code (3 : Nat) (Option.some Jvm.ClassFile.FieldType.int)) ∈ ALLG := tk8 138 rfl rfl
theorem w1012 : (Jvm.Cond.methodLink "MillBoatsLaw" (133 : Nat) ({ cls := "MillBoats", name := "plan", desc := "(IIII)I" } : Jvm.MethodName)) ∈ ALLG := tk5 52 rfl rfl
theorem w1013 : (Jvm.Cond.instanceMethod ({ cls := "MillBoats", name := "plan", desc := "(IIII)I" } : Jvm.MethodName)) ∈ ALLG := tk5 53 rfl rfl
theorem w1014 : (Jvm.Cond.selects "MillBoats" ({ cls := "MillBoats", name := "plan", desc := "(IIII)I" } : Jvm.MethodName) ({ cls := "MillBoats", name := "plan", desc := "(IIII)I" } : Jvm.MethodName)) ∈ ALLG := tk5 54 rfl rfl
theorem w1015 : (Jvm.Cond.code ({ cls := "MillBoats", name := "plan", desc := "(IIII)I" } : Jvm.MethodName) prog_1_method_28_code (5 : Nat) (Option.some Jvm.ClassFile.FieldType.int)) ∈ ALLG := tk5 55 rfl rfl
theorem w1860 : (Jvm.Cond.methodLink "MillBoatsLaw" (136 : Nat) ({ cls := "MillBoatsModel", name := "plan", desc := "(IIII)I" } : Jvm.MethodName)) ∈ ALLG := tk8 180 rfl rfl
theorem w1861 : (Jvm.Cond.instanceMethod ({ cls := "MillBoatsModel", name := "plan", desc := "(IIII)I" } : Jvm.MethodName)) ∈ ALLG := tk8 181 rfl rfl
theorem w1862 : (Jvm.Cond.selects "MillBoatsModel" ({ cls := "MillBoatsModel", name := "plan", desc := "(IIII)I" } : Jvm.MethodName) ({ cls := "MillBoatsModel", name := "plan", desc := "(IIII)I" } : Jvm.MethodName)) ∈ ALLG := tk8 182 rfl rfl
theorem w1863 : (Jvm.Cond.code ({ cls := "MillBoatsModel", name := "plan", desc := "(IIII)I" } : Jvm.MethodName) prog_14_method_95_code (7 : Nat) (Option.some Jvm.ClassFile.FieldType.int)) ∈ ALLG := tk8 183 rfl rfl
theorem w1076 : (Jvm.Cond.methodLink "MillBoatsLaw" (137 : Nat) ({ cls := "MillBoats", name := "planned", desc := "(I)I" } : Jvm.MethodName)) ∈ ALLG := tk5 116 rfl rfl
theorem w1077 : (Jvm.Cond.instanceMethod ({ cls := "MillBoats", name := "planned", desc := "(I)I" } : Jvm.MethodName)) ∈ ALLG := tk5 117 rfl rfl
theorem w1078 : (Jvm.Cond.selects "MillBoats" ({ cls := "MillBoats", name := "planned", desc := "(I)I" } : Jvm.MethodName) ({ cls := "MillBoats", name := "planned", desc := "(I)I" } : Jvm.MethodName)) ∈ ALLG := tk5 118 rfl rfl
theorem w1079 : (Jvm.Cond.code ({ cls := "MillBoats", name := "planned", desc := "(I)I" } : Jvm.MethodName) prog_1_method_29_code (2 : Nat) (Option.some Jvm.ClassFile.FieldType.int)) ∈ ALLG := tk5 119 rfl rfl
theorem w1880 : (Jvm.Cond.methodLink "MillBoatsLaw" (140 : Nat) ({ cls := "MillBoatsModel", name := "planned", desc := "(I)I" } : Jvm.MethodName)) ∈ ALLG := tk8 200 rfl rfl
theorem w1881 : (Jvm.Cond.instanceMethod ({ cls := "MillBoatsModel", name := "planned", desc := "(I)I" } : Jvm.MethodName)) ∈ ALLG := tk8 201 rfl rfl
theorem w1882 : (Jvm.Cond.selects "MillBoatsModel" ({ cls := "MillBoatsModel", name := "planned", desc := "(I)I" } : Jvm.MethodName) ({ cls := "MillBoatsModel", name := "planned", desc := "(I)I" } : Jvm.MethodName)) ∈ ALLG := tk8 202 rfl rfl
theorem w1883 : (Jvm.Cond.code ({ cls := "MillBoatsModel", name := "planned", desc := "(I)I" } : Jvm.MethodName) prog_14_method_96_code (2 : Nat) (Option.some Jvm.ClassFile.FieldType.int)) ∈ ALLG := tk8 203 rfl rfl
theorem w1084 : (Jvm.Cond.methodLink "MillBoatsLaw" (141 : Nat) ({ cls := "MillBoats", name := "moves", desc := "()I" } : Jvm.MethodName)) ∈ ALLG := tk5 124 rfl rfl
theorem w1085 : (Jvm.Cond.instanceMethod ({ cls := "MillBoats", name := "moves", desc := "()I" } : Jvm.MethodName)) ∈ ALLG := tk5 125 rfl rfl
theorem w1086 : (Jvm.Cond.selects "MillBoats" ({ cls := "MillBoats", name := "moves", desc := "()I" } : Jvm.MethodName) ({ cls := "MillBoats", name := "moves", desc := "()I" } : Jvm.MethodName)) ∈ ALLG := tk5 126 rfl rfl
theorem w1087 : (Jvm.Cond.code ({ cls := "MillBoats", name := "moves", desc := "()I" } : Jvm.MethodName) prog_1_method_30_code (1 : Nat) (Option.some Jvm.ClassFile.FieldType.int)) ∈ ALLG := tk5 127 rfl rfl
theorem w1884 : (Jvm.Cond.methodLink "MillBoatsLaw" (144 : Nat) ({ cls := "MillBoatsModel", name := "moves", desc := "()I" } : Jvm.MethodName)) ∈ ALLG := tk8 204 rfl rfl
theorem w1885 : (Jvm.Cond.instanceMethod ({ cls := "MillBoatsModel", name := "moves", desc := "()I" } : Jvm.MethodName)) ∈ ALLG := tk8 205 rfl rfl
theorem w1886 : (Jvm.Cond.selects "MillBoatsModel" ({ cls := "MillBoatsModel", name := "moves", desc := "()I" } : Jvm.MethodName) ({ cls := "MillBoatsModel", name := "moves", desc := "()I" } : Jvm.MethodName)) ∈ ALLG := tk8 206 rfl rfl
theorem w1887 : (Jvm.Cond.code ({ cls := "MillBoatsModel", name := "moves", desc := "()I" } : Jvm.MethodName) prog_14_method_102_code (1 : Nat) (Option.some Jvm.ClassFile.FieldType.int)) ∈ ALLG := tk8 207 rfl rfl
theorem w1123 : (Jvm.Cond.methodLink "MillBoatsLaw" (145 : Nat) ({ cls := "MillBoats", name := "move", desc := "(II)I" } : Jvm.MethodName)) ∈ ALLG := tk5 163 rfl rfl
theorem w1124 : (Jvm.Cond.instanceMethod ({ cls := "MillBoats", name := "move", desc := "(II)I" } : Jvm.MethodName)) ∈ ALLG := tk5 164 rfl rfl
theorem w1125 : (Jvm.Cond.selects "MillBoats" ({ cls := "MillBoats", name := "move", desc := "(II)I" } : Jvm.MethodName) ({ cls := "MillBoats", name := "move", desc := "(II)I" } : Jvm.MethodName)) ∈ ALLG := tk5 165 rfl rfl
theorem w1126 : (Jvm.Cond.code ({ cls := "MillBoats", name := "move", desc := "(II)I" } : Jvm.MethodName) prog_1_method_31_code (4 : Nat) (Option.some Jvm.ClassFile.FieldType.int)) ∈ ALLG := tk5 166 rfl rfl
theorem w1907 : (Jvm.Cond.methodLink "MillBoatsLaw" (148 : Nat) ({ cls := "MillBoatsModel", name := "move", desc := "(II)I" } : Jvm.MethodName)) ∈ ALLG := tk8 227 rfl rfl
theorem w1908 : (Jvm.Cond.instanceMethod ({ cls := "MillBoatsModel", name := "move", desc := "(II)I" } : Jvm.MethodName)) ∈ ALLG := tk8 228 rfl rfl
theorem w1909 : (Jvm.Cond.selects "MillBoatsModel" ({ cls := "MillBoatsModel", name := "move", desc := "(II)I" } : Jvm.MethodName) ({ cls := "MillBoatsModel", name := "move", desc := "(II)I" } : Jvm.MethodName)) ∈ ALLG := tk8 229 rfl rfl
theorem w1910 : (Jvm.Cond.code ({ cls := "MillBoatsModel", name := "move", desc := "(II)I" } : Jvm.MethodName) prog_14_method_103_code (4 : Nat) (Option.some Jvm.ClassFile.FieldType.int)) ∈ ALLG := tk8 230 rfl rfl
theorem w1127 : (Jvm.Cond.methodLink "MillBoatsLaw" (149 : Nat) ({ cls := "MillBoats", name := "go", desc := "()I" } : Jvm.MethodName)) ∈ ALLG := tk5 167 rfl rfl
theorem w1128 : (Jvm.Cond.instanceMethod ({ cls := "MillBoats", name := "go", desc := "()I" } : Jvm.MethodName)) ∈ ALLG := tk5 168 rfl rfl
theorem w1129 : (Jvm.Cond.selects "MillBoats" ({ cls := "MillBoats", name := "go", desc := "()I" } : Jvm.MethodName) ({ cls := "MillBoats", name := "go", desc := "()I" } : Jvm.MethodName)) ∈ ALLG := tk5 169 rfl rfl
theorem w1130 : (Jvm.Cond.code ({ cls := "MillBoats", name := "go", desc := "()I" } : Jvm.MethodName) prog_1_method_32_code (4 : Nat) (Option.some Jvm.ClassFile.FieldType.int)) ∈ ALLG := tk5 170 rfl rfl
theorem w1911 : (Jvm.Cond.methodLink "MillBoatsLaw" (152 : Nat) ({ cls := "MillBoatsModel", name := "go", desc := "()I" } : Jvm.MethodName)) ∈ ALLG := tk8 231 rfl rfl
theorem w1912 : (Jvm.Cond.instanceMethod ({ cls := "MillBoatsModel", name := "go", desc := "()I" } : Jvm.MethodName)) ∈ ALLG := tk8 232 rfl rfl
theorem w1913 : (Jvm.Cond.selects "MillBoatsModel" ({ cls := "MillBoatsModel", name := "go", desc := "()I" } : Jvm.MethodName) ({ cls := "MillBoatsModel", name := "go", desc := "()I" } : Jvm.MethodName)) ∈ ALLG := tk8 233 rfl rfl
theorem w1914 : (Jvm.Cond.code ({ cls := "MillBoatsModel", name := "go", desc := "()I" } : Jvm.MethodName) prog_14_method_104_code (3 : Nat) (Option.some Jvm.ClassFile.FieldType.int)) ∈ ALLG := tk8 234 rfl rfl
theorem w1131 : (Jvm.Cond.methodLink "MillBoatsLaw" (162 : Nat) ({ cls := "MillBoats", name := "orderOf", desc := "(II)I" } : Jvm.MethodName)) ∈ ALLG := tk5 171 rfl rfl
theorem w1132 : (Jvm.Cond.instanceMethod ({ cls := "MillBoats", name := "orderOf", desc := "(II)I" } : Jvm.MethodName)) ∈ ALLG := tk5 172 rfl rfl
theorem w1133 : (Jvm.Cond.selects "MillBoats" ({ cls := "MillBoats", name := "orderOf", desc := "(II)I" } : Jvm.MethodName) ({ cls := "MillBoats", name := "orderOf", desc := "(II)I" } : Jvm.MethodName)) ∈ ALLG := tk5 173 rfl rfl
theorem w1134 : (Jvm.Cond.code ({ cls := "MillBoats", name := "orderOf", desc := "(II)I" } : Jvm.MethodName) prog_1_method_34_code (3 : Nat) (Option.some Jvm.ClassFile.FieldType.int)) ∈ ALLG := tk5 174 rfl rfl
theorem w1919 : (Jvm.Cond.methodLink "MillBoatsLaw" (165 : Nat) ({ cls := "MillBoatsModel", name := "orderOf", desc := "(II)I" } : Jvm.MethodName)) ∈ ALLG := tk8 239 rfl rfl
theorem w1920 : (Jvm.Cond.instanceMethod ({ cls := "MillBoatsModel", name := "orderOf", desc := "(II)I" } : Jvm.MethodName)) ∈ ALLG := tk9 0 rfl rfl
theorem w1921 : (Jvm.Cond.selects "MillBoatsModel" ({ cls := "MillBoatsModel", name := "orderOf", desc := "(II)I" } : Jvm.MethodName) ({ cls := "MillBoatsModel", name := "orderOf", desc := "(II)I" } : Jvm.MethodName)) ∈ ALLG := tk9 1 rfl rfl
theorem w1922 : (Jvm.Cond.code ({ cls := "MillBoatsModel", name := "orderOf", desc := "(II)I" } : Jvm.MethodName) prog_14_method_106_code (3 : Nat) (Option.some Jvm.ClassFile.FieldType.int)) ∈ ALLG := tk9 2 rfl rfl
theorem w1139 : (Jvm.Cond.methodLink "MillBoatsLaw" (166 : Nat) ({ cls := "MillBoats", name := "count", desc := "(I)I" } : Jvm.MethodName)) ∈ ALLG := tk5 179 rfl rfl
theorem w1140 : (Jvm.Cond.instanceMethod ({ cls := "MillBoats", name := "count", desc := "(I)I" } : Jvm.MethodName)) ∈ ALLG := tk5 180 rfl rfl
theorem w1141 : (Jvm.Cond.selects "MillBoats" ({ cls := "MillBoats", name := "count", desc := "(I)I" } : Jvm.MethodName) ({ cls := "MillBoats", name := "count", desc := "(I)I" } : Jvm.MethodName)) ∈ ALLG := tk5 181 rfl rfl
theorem w1142 : (Jvm.Cond.code ({ cls := "MillBoats", name := "count", desc := "(I)I" } : Jvm.MethodName) prog_1_method_35_code (2 : Nat) (Option.some Jvm.ClassFile.FieldType.int)) ∈ ALLG := tk5 182 rfl rfl
theorem w1923 : (Jvm.Cond.methodLink "MillBoatsLaw" (169 : Nat) ({ cls := "MillBoatsModel", name := "count", desc := "(I)I" } : Jvm.MethodName)) ∈ ALLG := tk9 3 rfl rfl
theorem w1924 : (Jvm.Cond.instanceMethod ({ cls := "MillBoatsModel", name := "count", desc := "(I)I" } : Jvm.MethodName)) ∈ ALLG := tk9 4 rfl rfl
theorem w1925 : (Jvm.Cond.selects "MillBoatsModel" ({ cls := "MillBoatsModel", name := "count", desc := "(I)I" } : Jvm.MethodName) ({ cls := "MillBoatsModel", name := "count", desc := "(I)I" } : Jvm.MethodName)) ∈ ALLG := tk9 5 rfl rfl
theorem w1926 : (Jvm.Cond.code ({ cls := "MillBoatsModel", name := "count", desc := "(I)I" } : Jvm.MethodName) prog_14_method_109_code (2 : Nat) (Option.some Jvm.ClassFile.FieldType.int)) ∈ ALLG := tk9 6 rfl rfl
theorem w28 : (Jvm.Cond.methodLink "MillBoatsLaw" (15 : Nat) ({ cls := "MillBoats", name := "<init>", desc := "()V" } : Jvm.MethodName)) ∈ ALLG := tk1 28 rfl rfl
theorem w1247 : (Jvm.Cond.methodLink "MillBoatsLaw" (18 : Nat) ({ cls := "MillBoatsModel", name := "<init>", desc := "()V" } : Jvm.MethodName)) ∈ ALLG := tk6 47 rfl rfl
theorem w26 : (Jvm.Cond.classLink "MillBoatsLaw" (8 : Nat) "MillBoats") ∈ ALLG := tk1 26 rfl rfl
theorem w1245 : (Jvm.Cond.classLink "MillBoatsLaw" (16 : Nat) "MillBoatsModel") ∈ ALLG := tk6 45 rfl rfl
theorem w27 : (Jvm.Cond.instantiable "MillBoats" (9 : Nat)) ∈ ALLG := tk1 27 rfl rfl
theorem w1246 : (Jvm.Cond.instantiable "MillBoatsModel" (79 : Nat)) ∈ ALLG := tk6 46 rfl rfl
theorem w29 : (Jvm.Cond.instanceMethod ({ cls := "MillBoats", name := "<init>", desc := "()V" } : Jvm.MethodName)) ∈ ALLG := tk1 29 rfl rfl
theorem w1248 : (Jvm.Cond.instanceMethod ({ cls := "MillBoatsModel", name := "<init>", desc := "()V" } : Jvm.MethodName)) ∈ ALLG := tk6 48 rfl rfl
theorem w30 : (Jvm.Cond.code ({ cls := "MillBoats", name := "<init>", desc := "()V" } : Jvm.MethodName) prog_1_method_1_code (1 : Nat) (Option.none : Option Jvm.ClassFile.FieldType)) ∈ ALLG := tk1 30 rfl rfl
theorem w1249 : (Jvm.Cond.code ({ cls := "MillBoatsModel", name := "<init>", desc := "()V" } : Jvm.MethodName) prog_14_method_3_code (1 : Nat) (Option.none : Option Jvm.ClassFile.FieldType)) ∈ ALLG := tk6 49 rfl rfl
