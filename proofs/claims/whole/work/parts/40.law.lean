theorem dL_law_0 : decode cL_law 0 = .ok (.new 8, 3) := by decide +kernel
theorem dL_law_3 : decode cL_law 3 = .ok (.dup, 1) := by decide +kernel
theorem dL_law_4 : decode cL_law 4 = .ok (.invokespecial 15, 3) := by decide +kernel
theorem dL_law_7 : decode cL_law 7 = .ok (.astore_n 1, 1) := by decide +kernel
theorem dL_law_8 : decode cL_law 8 = .ok (.new 16, 3) := by decide +kernel
theorem dL_law_11 : decode cL_law 11 = .ok (.dup, 1) := by decide +kernel
theorem dL_law_12 : decode cL_law 12 = .ok (.invokespecial 18, 3) := by decide +kernel
theorem dL_law_15 : decode cL_law 15 = .ok (.astore_n 2, 1) := by decide +kernel
theorem dL_law_16 : decode cL_law 16 = .ok (.iconst 1, 1) := by decide +kernel
theorem dL_law_17 : decode cL_law 17 = .ok (.newarray .long, 2) := by decide +kernel
theorem dL_law_19 : decode cL_law 19 = .ok (.astore_n 3, 1) := by decide +kernel
theorem dL_law_20 : decode cL_law 20 = .ok (.iconst 0, 1) := by decide +kernel
theorem dL_law_21 : decode cL_law 21 = .ok (.istore 4, 2) := by decide +kernel
theorem dL_law_23 : decode cL_law 23 = .ok (.iload 4, 2) := by decide +kernel
theorem dL_law_25 : decode cL_law 25 = .ok (.aload_n 0, 1) := by decide +kernel
theorem dL_law_26 : decode cL_law 26 = .ok (.arraylength, 1) := by decide +kernel
theorem dL_law_27 : decode cL_law 27 = .ok (.bipush 7, 2) := by decide +kernel
theorem dL_law_29 : decode cL_law 29 = .ok (.isub, 1) := by decide +kernel
theorem dL_law_30 : decode cL_law 30 = .ok (.if_icmp .gt 1258, 3) := by decide +kernel
theorem dL_law_33 : decode cL_law 33 = .ok (.aload_n 0, 1) := by decide +kernel
theorem dL_law_34 : decode cL_law 34 = .ok (.iload 4, 2) := by decide +kernel
theorem dL_law_36 : decode cL_law 36 = .ok (.iaload, 1) := by decide +kernel
theorem dL_law_37 : decode cL_law 37 = .ok (.bipush 63, 2) := by decide +kernel
theorem dL_law_39 : decode cL_law 39 = .ok (.iand, 1) := by decide +kernel
theorem dL_law_40 : decode cL_law 40 = .ok (.tableswitch 1242 0 32 #[148, 295, 308, 321, 346, 359, 384, 397, 422, 447, 472, 509, 546, 571, 596, 645, 670, 707, 720, 757, 770, 807, 844, 869, 925, 950, 987, 1012, 1077, 1090, 1115, 1164, 1217], 148) := by decide +kernel
theorem dL_law_188 : decode cL_law 188 = .ok (.aload_n 1, 1) := by decide +kernel
theorem dL_law_189 : decode cL_law 189 = .ok (.aload_n 0, 1) := by decide +kernel
theorem dL_law_190 : decode cL_law 190 = .ok (.iload 4, 2) := by decide +kernel
theorem dL_law_192 : decode cL_law 192 = .ok (.iconst 1, 1) := by decide +kernel
theorem dL_law_193 : decode cL_law 193 = .ok (.iadd, 1) := by decide +kernel
theorem dL_law_194 : decode cL_law 194 = .ok (.iaload, 1) := by decide +kernel
theorem dL_law_195 : decode cL_law 195 = .ok (.i2l, 1) := by decide +kernel
theorem dL_law_196 : decode cL_law 196 = .ok (.bipush 32, 2) := by decide +kernel
theorem dL_law_198 : decode cL_law 198 = .ok (.lshl, 1) := by decide +kernel
theorem dL_law_199 : decode cL_law 199 = .ok (.aload_n 0, 1) := by decide +kernel
theorem dL_law_200 : decode cL_law 200 = .ok (.iload 4, 2) := by decide +kernel
theorem dL_law_202 : decode cL_law 202 = .ok (.iconst 2, 1) := by decide +kernel
theorem dL_law_203 : decode cL_law 203 = .ok (.iadd, 1) := by decide +kernel
theorem dL_law_204 : decode cL_law 204 = .ok (.iaload, 1) := by decide +kernel
theorem dL_law_205 : decode cL_law 205 = .ok (.i2l, 1) := by decide +kernel
theorem dL_law_206 : decode cL_law 206 = .ok (.ldc2_w 19, 3) := by decide +kernel
theorem dL_law_209 : decode cL_law 209 = .ok (.land, 1) := by decide +kernel
theorem dL_law_210 : decode cL_law 210 = .ok (.lor, 1) := by decide +kernel
theorem dL_law_211 : decode cL_law 211 = .ok (.aload_n 0, 1) := by decide +kernel
theorem dL_law_212 : decode cL_law 212 = .ok (.iload 4, 2) := by decide +kernel
theorem dL_law_214 : decode cL_law 214 = .ok (.iconst 3, 1) := by decide +kernel
theorem dL_law_215 : decode cL_law 215 = .ok (.iadd, 1) := by decide +kernel
theorem dL_law_216 : decode cL_law 216 = .ok (.iaload, 1) := by decide +kernel
theorem dL_law_217 : decode cL_law 217 = .ok (.i2l, 1) := by decide +kernel
theorem dL_law_218 : decode cL_law 218 = .ok (.bipush 32, 2) := by decide +kernel
theorem dL_law_220 : decode cL_law 220 = .ok (.lshl, 1) := by decide +kernel
theorem dL_law_221 : decode cL_law 221 = .ok (.aload_n 0, 1) := by decide +kernel
theorem dL_law_222 : decode cL_law 222 = .ok (.iload 4, 2) := by decide +kernel
theorem dL_law_224 : decode cL_law 224 = .ok (.iconst 4, 1) := by decide +kernel
theorem dL_law_225 : decode cL_law 225 = .ok (.iadd, 1) := by decide +kernel
theorem dL_law_226 : decode cL_law 226 = .ok (.iaload, 1) := by decide +kernel
theorem dL_law_227 : decode cL_law 227 = .ok (.i2l, 1) := by decide +kernel
theorem dL_law_228 : decode cL_law 228 = .ok (.ldc2_w 19, 3) := by decide +kernel
theorem dL_law_231 : decode cL_law 231 = .ok (.land, 1) := by decide +kernel
theorem dL_law_232 : decode cL_law 232 = .ok (.lor, 1) := by decide +kernel
theorem dL_law_233 : decode cL_law 233 = .ok (.aload_n 0, 1) := by decide +kernel
theorem dL_law_234 : decode cL_law 234 = .ok (.iload 4, 2) := by decide +kernel
theorem dL_law_236 : decode cL_law 236 = .ok (.iconst 5, 1) := by decide +kernel
theorem dL_law_237 : decode cL_law 237 = .ok (.iadd, 1) := by decide +kernel
theorem dL_law_238 : decode cL_law 238 = .ok (.iaload, 1) := by decide +kernel
theorem dL_law_239 : decode cL_law 239 = .ok (.i2l, 1) := by decide +kernel
theorem dL_law_240 : decode cL_law 240 = .ok (.bipush 32, 2) := by decide +kernel
theorem dL_law_242 : decode cL_law 242 = .ok (.lshl, 1) := by decide +kernel
theorem dL_law_243 : decode cL_law 243 = .ok (.aload_n 0, 1) := by decide +kernel
theorem dL_law_244 : decode cL_law 244 = .ok (.iload 4, 2) := by decide +kernel
theorem dL_law_246 : decode cL_law 246 = .ok (.bipush 6, 2) := by decide +kernel
theorem dL_law_248 : decode cL_law 248 = .ok (.iadd, 1) := by decide +kernel
theorem dL_law_249 : decode cL_law 249 = .ok (.iaload, 1) := by decide +kernel
theorem dL_law_250 : decode cL_law 250 = .ok (.i2l, 1) := by decide +kernel
theorem dL_law_251 : decode cL_law 251 = .ok (.ldc2_w 19, 3) := by decide +kernel
theorem dL_law_254 : decode cL_law 254 = .ok (.land, 1) := by decide +kernel
theorem dL_law_255 : decode cL_law 255 = .ok (.lor, 1) := by decide +kernel
theorem dL_law_256 : decode cL_law 256 = .ok (.invokevirtual 21, 3) := by decide +kernel
theorem dL_law_259 : decode cL_law 259 = .ok (.aload_n 2, 1) := by decide +kernel
theorem dL_law_260 : decode cL_law 260 = .ok (.aload_n 0, 1) := by decide +kernel
theorem dL_law_261 : decode cL_law 261 = .ok (.iload 4, 2) := by decide +kernel
theorem dL_law_263 : decode cL_law 263 = .ok (.iconst 1, 1) := by decide +kernel
theorem dL_law_264 : decode cL_law 264 = .ok (.iadd, 1) := by decide +kernel
theorem dL_law_265 : decode cL_law 265 = .ok (.iaload, 1) := by decide +kernel
theorem dL_law_266 : decode cL_law 266 = .ok (.i2l, 1) := by decide +kernel
theorem dL_law_267 : decode cL_law 267 = .ok (.bipush 32, 2) := by decide +kernel
theorem dL_law_269 : decode cL_law 269 = .ok (.lshl, 1) := by decide +kernel
theorem dL_law_270 : decode cL_law 270 = .ok (.aload_n 0, 1) := by decide +kernel
theorem dL_law_271 : decode cL_law 271 = .ok (.iload 4, 2) := by decide +kernel
theorem dL_law_273 : decode cL_law 273 = .ok (.iconst 2, 1) := by decide +kernel
theorem dL_law_274 : decode cL_law 274 = .ok (.iadd, 1) := by decide +kernel
theorem dL_law_275 : decode cL_law 275 = .ok (.iaload, 1) := by decide +kernel
theorem dL_law_276 : decode cL_law 276 = .ok (.i2l, 1) := by decide +kernel
theorem dL_law_277 : decode cL_law 277 = .ok (.ldc2_w 19, 3) := by decide +kernel
theorem dL_law_280 : decode cL_law 280 = .ok (.land, 1) := by decide +kernel
theorem dL_law_281 : decode cL_law 281 = .ok (.lor, 1) := by decide +kernel
theorem dL_law_282 : decode cL_law 282 = .ok (.aload_n 0, 1) := by decide +kernel
theorem dL_law_283 : decode cL_law 283 = .ok (.iload 4, 2) := by decide +kernel
theorem dL_law_285 : decode cL_law 285 = .ok (.iconst 3, 1) := by decide +kernel
theorem dL_law_286 : decode cL_law 286 = .ok (.iadd, 1) := by decide +kernel
theorem dL_law_287 : decode cL_law 287 = .ok (.iaload, 1) := by decide +kernel
theorem dL_law_288 : decode cL_law 288 = .ok (.i2l, 1) := by decide +kernel
theorem dL_law_289 : decode cL_law 289 = .ok (.bipush 32, 2) := by decide +kernel
theorem dL_law_291 : decode cL_law 291 = .ok (.lshl, 1) := by decide +kernel
theorem dL_law_292 : decode cL_law 292 = .ok (.aload_n 0, 1) := by decide +kernel
theorem dL_law_293 : decode cL_law 293 = .ok (.iload 4, 2) := by decide +kernel
theorem dL_law_295 : decode cL_law 295 = .ok (.iconst 4, 1) := by decide +kernel
theorem dL_law_296 : decode cL_law 296 = .ok (.iadd, 1) := by decide +kernel
theorem dL_law_297 : decode cL_law 297 = .ok (.iaload, 1) := by decide +kernel
theorem dL_law_298 : decode cL_law 298 = .ok (.i2l, 1) := by decide +kernel
theorem dL_law_299 : decode cL_law 299 = .ok (.ldc2_w 19, 3) := by decide +kernel
theorem dL_law_302 : decode cL_law 302 = .ok (.land, 1) := by decide +kernel
theorem dL_law_303 : decode cL_law 303 = .ok (.lor, 1) := by decide +kernel
theorem dL_law_304 : decode cL_law 304 = .ok (.aload_n 0, 1) := by decide +kernel
theorem dL_law_305 : decode cL_law 305 = .ok (.iload 4, 2) := by decide +kernel
theorem dL_law_307 : decode cL_law 307 = .ok (.iconst 5, 1) := by decide +kernel
theorem dL_law_308 : decode cL_law 308 = .ok (.iadd, 1) := by decide +kernel
theorem dL_law_309 : decode cL_law 309 = .ok (.iaload, 1) := by decide +kernel
theorem dL_law_310 : decode cL_law 310 = .ok (.i2l, 1) := by decide +kernel
theorem dL_law_311 : decode cL_law 311 = .ok (.bipush 32, 2) := by decide +kernel
theorem dL_law_313 : decode cL_law 313 = .ok (.lshl, 1) := by decide +kernel
theorem dL_law_314 : decode cL_law 314 = .ok (.aload_n 0, 1) := by decide +kernel
theorem dL_law_315 : decode cL_law 315 = .ok (.iload 4, 2) := by decide +kernel
theorem dL_law_317 : decode cL_law 317 = .ok (.bipush 6, 2) := by decide +kernel
theorem dL_law_319 : decode cL_law 319 = .ok (.iadd, 1) := by decide +kernel
theorem dL_law_320 : decode cL_law 320 = .ok (.iaload, 1) := by decide +kernel
theorem dL_law_321 : decode cL_law 321 = .ok (.i2l, 1) := by decide +kernel
theorem dL_law_322 : decode cL_law 322 = .ok (.ldc2_w 19, 3) := by decide +kernel
theorem dL_law_325 : decode cL_law 325 = .ok (.land, 1) := by decide +kernel
theorem dL_law_326 : decode cL_law 326 = .ok (.lor, 1) := by decide +kernel
theorem dL_law_327 : decode cL_law 327 = .ok (.invokevirtual 25, 3) := by decide +kernel
theorem dL_law_330 : decode cL_law 330 = .ok (.if_icmp .eq 952, 3) := by decide +kernel
theorem dL_law_333 : decode cL_law 333 = .ok (.iconst 0, 1) := by decide +kernel
theorem dL_law_334 : decode cL_law 334 = .ok (.ireturn, 1) := by decide +kernel
theorem dL_law_335 : decode cL_law 335 = .ok (.aload_n 1, 1) := by decide +kernel
theorem dL_law_336 : decode cL_law 336 = .ok (.invokevirtual 26, 3) := by decide +kernel
theorem dL_law_339 : decode cL_law 339 = .ok (.aload_n 2, 1) := by decide +kernel
theorem dL_law_340 : decode cL_law 340 = .ok (.invokevirtual 30, 3) := by decide +kernel
theorem dL_law_343 : decode cL_law 343 = .ok (.if_icmp .eq 939, 3) := by decide +kernel
theorem dL_law_346 : decode cL_law 346 = .ok (.iconst 0, 1) := by decide +kernel
theorem dL_law_347 : decode cL_law 347 = .ok (.ireturn, 1) := by decide +kernel
theorem dL_law_348 : decode cL_law 348 = .ok (.aload_n 1, 1) := by decide +kernel
theorem dL_law_349 : decode cL_law 349 = .ok (.invokevirtual 31, 3) := by decide +kernel
theorem dL_law_352 : decode cL_law 352 = .ok (.aload_n 2, 1) := by decide +kernel
theorem dL_law_353 : decode cL_law 353 = .ok (.invokevirtual 34, 3) := by decide +kernel
theorem dL_law_356 : decode cL_law 356 = .ok (.if_icmp .eq 926, 3) := by decide +kernel
theorem dL_law_359 : decode cL_law 359 = .ok (.iconst 0, 1) := by decide +kernel
theorem dL_law_360 : decode cL_law 360 = .ok (.ireturn, 1) := by decide +kernel
theorem dL_law_361 : decode cL_law 361 = .ok (.aload_n 1, 1) := by decide +kernel
theorem dL_law_362 : decode cL_law 362 = .ok (.aload_n 0, 1) := by decide +kernel
theorem dL_law_363 : decode cL_law 363 = .ok (.iload 4, 2) := by decide +kernel
theorem dL_law_365 : decode cL_law 365 = .ok (.iconst 1, 1) := by decide +kernel
theorem dL_law_366 : decode cL_law 366 = .ok (.iadd, 1) := by decide +kernel
theorem dL_law_367 : decode cL_law 367 = .ok (.iaload, 1) := by decide +kernel
theorem dL_law_368 : decode cL_law 368 = .ok (.invokevirtual 35, 3) := by decide +kernel
theorem dL_law_371 : decode cL_law 371 = .ok (.aload_n 2, 1) := by decide +kernel
theorem dL_law_372 : decode cL_law 372 = .ok (.aload_n 0, 1) := by decide +kernel
theorem dL_law_373 : decode cL_law 373 = .ok (.iload 4, 2) := by decide +kernel
theorem dL_law_375 : decode cL_law 375 = .ok (.iconst 1, 1) := by decide +kernel
theorem dL_law_376 : decode cL_law 376 = .ok (.iadd, 1) := by decide +kernel
theorem dL_law_377 : decode cL_law 377 = .ok (.iaload, 1) := by decide +kernel
theorem dL_law_378 : decode cL_law 378 = .ok (.invokevirtual 38, 3) := by decide +kernel
theorem dL_law_381 : decode cL_law 381 = .ok (.if_icmp .eq 901, 3) := by decide +kernel
theorem dL_law_384 : decode cL_law 384 = .ok (.iconst 0, 1) := by decide +kernel
theorem dL_law_385 : decode cL_law 385 = .ok (.ireturn, 1) := by decide +kernel
theorem dL_law_386 : decode cL_law 386 = .ok (.aload_n 1, 1) := by decide +kernel
theorem dL_law_387 : decode cL_law 387 = .ok (.invokevirtual 39, 3) := by decide +kernel
theorem dL_law_390 : decode cL_law 390 = .ok (.aload_n 2, 1) := by decide +kernel
theorem dL_law_391 : decode cL_law 391 = .ok (.invokevirtual 42, 3) := by decide +kernel
theorem dL_law_394 : decode cL_law 394 = .ok (.if_icmp .eq 888, 3) := by decide +kernel
theorem dL_law_397 : decode cL_law 397 = .ok (.iconst 0, 1) := by decide +kernel
theorem dL_law_398 : decode cL_law 398 = .ok (.ireturn, 1) := by decide +kernel
theorem dL_law_399 : decode cL_law 399 = .ok (.aload_n 1, 1) := by decide +kernel
theorem dL_law_400 : decode cL_law 400 = .ok (.aload_n 0, 1) := by decide +kernel
theorem dL_law_401 : decode cL_law 401 = .ok (.iload 4, 2) := by decide +kernel
theorem dL_law_403 : decode cL_law 403 = .ok (.iconst 1, 1) := by decide +kernel
theorem dL_law_404 : decode cL_law 404 = .ok (.iadd, 1) := by decide +kernel
theorem dL_law_405 : decode cL_law 405 = .ok (.iaload, 1) := by decide +kernel
theorem dL_law_406 : decode cL_law 406 = .ok (.invokevirtual 43, 3) := by decide +kernel
theorem dL_law_409 : decode cL_law 409 = .ok (.aload_n 2, 1) := by decide +kernel
theorem dL_law_410 : decode cL_law 410 = .ok (.aload_n 0, 1) := by decide +kernel
theorem dL_law_411 : decode cL_law 411 = .ok (.iload 4, 2) := by decide +kernel
theorem dL_law_413 : decode cL_law 413 = .ok (.iconst 1, 1) := by decide +kernel
theorem dL_law_414 : decode cL_law 414 = .ok (.iadd, 1) := by decide +kernel
theorem dL_law_415 : decode cL_law 415 = .ok (.iaload, 1) := by decide +kernel
theorem dL_law_416 : decode cL_law 416 = .ok (.invokevirtual 47, 3) := by decide +kernel
theorem dL_law_419 : decode cL_law 419 = .ok (.if_icmp .eq 863, 3) := by decide +kernel
theorem dL_law_422 : decode cL_law 422 = .ok (.iconst 0, 1) := by decide +kernel
theorem dL_law_423 : decode cL_law 423 = .ok (.ireturn, 1) := by decide +kernel
theorem dL_law_424 : decode cL_law 424 = .ok (.aload_n 1, 1) := by decide +kernel
theorem dL_law_425 : decode cL_law 425 = .ok (.invokevirtual 48, 3) := by decide +kernel
theorem dL_law_428 : decode cL_law 428 = .ok (.aload_n 2, 1) := by decide +kernel
theorem dL_law_429 : decode cL_law 429 = .ok (.invokevirtual 52, 3) := by decide +kernel
theorem dL_law_432 : decode cL_law 432 = .ok (.if_icmp .eq 850, 3) := by decide +kernel
theorem dL_law_435 : decode cL_law 435 = .ok (.iconst 0, 1) := by decide +kernel
theorem dL_law_436 : decode cL_law 436 = .ok (.ireturn, 1) := by decide +kernel
theorem dL_law_437 : decode cL_law 437 = .ok (.aload_n 1, 1) := by decide +kernel
theorem dL_law_438 : decode cL_law 438 = .ok (.aload_n 0, 1) := by decide +kernel
theorem dL_law_439 : decode cL_law 439 = .ok (.iload 4, 2) := by decide +kernel
theorem dL_law_441 : decode cL_law 441 = .ok (.iconst 1, 1) := by decide +kernel
theorem dL_law_442 : decode cL_law 442 = .ok (.iadd, 1) := by decide +kernel
theorem dL_law_443 : decode cL_law 443 = .ok (.iaload, 1) := by decide +kernel
theorem dL_law_444 : decode cL_law 444 = .ok (.invokevirtual 53, 3) := by decide +kernel
theorem dL_law_447 : decode cL_law 447 = .ok (.aload_n 2, 1) := by decide +kernel
theorem dL_law_448 : decode cL_law 448 = .ok (.aload_n 0, 1) := by decide +kernel
theorem dL_law_449 : decode cL_law 449 = .ok (.iload 4, 2) := by decide +kernel
theorem dL_law_451 : decode cL_law 451 = .ok (.iconst 1, 1) := by decide +kernel
theorem dL_law_452 : decode cL_law 452 = .ok (.iadd, 1) := by decide +kernel
theorem dL_law_453 : decode cL_law 453 = .ok (.iaload, 1) := by decide +kernel
theorem dL_law_454 : decode cL_law 454 = .ok (.invokevirtual 56, 3) := by decide +kernel
theorem dL_law_457 : decode cL_law 457 = .ok (.if_icmp .eq 825, 3) := by decide +kernel
theorem dL_law_460 : decode cL_law 460 = .ok (.iconst 0, 1) := by decide +kernel
theorem dL_law_461 : decode cL_law 461 = .ok (.ireturn, 1) := by decide +kernel
theorem dL_law_462 : decode cL_law 462 = .ok (.aload_n 1, 1) := by decide +kernel
theorem dL_law_463 : decode cL_law 463 = .ok (.aload_n 0, 1) := by decide +kernel
theorem dL_law_464 : decode cL_law 464 = .ok (.iload 4, 2) := by decide +kernel
theorem dL_law_466 : decode cL_law 466 = .ok (.iconst 1, 1) := by decide +kernel
theorem dL_law_467 : decode cL_law 467 = .ok (.iadd, 1) := by decide +kernel
theorem dL_law_468 : decode cL_law 468 = .ok (.iaload, 1) := by decide +kernel
theorem dL_law_469 : decode cL_law 469 = .ok (.invokevirtual 57, 3) := by decide +kernel
theorem dL_law_472 : decode cL_law 472 = .ok (.aload_n 2, 1) := by decide +kernel
theorem dL_law_473 : decode cL_law 473 = .ok (.aload_n 0, 1) := by decide +kernel
theorem dL_law_474 : decode cL_law 474 = .ok (.iload 4, 2) := by decide +kernel
theorem dL_law_476 : decode cL_law 476 = .ok (.iconst 1, 1) := by decide +kernel
theorem dL_law_477 : decode cL_law 477 = .ok (.iadd, 1) := by decide +kernel
theorem dL_law_478 : decode cL_law 478 = .ok (.iaload, 1) := by decide +kernel
theorem dL_law_479 : decode cL_law 479 = .ok (.invokevirtual 60, 3) := by decide +kernel
theorem dL_law_482 : decode cL_law 482 = .ok (.if_icmp .eq 800, 3) := by decide +kernel
theorem dL_law_485 : decode cL_law 485 = .ok (.iconst 0, 1) := by decide +kernel
theorem dL_law_486 : decode cL_law 486 = .ok (.ireturn, 1) := by decide +kernel
theorem dL_law_487 : decode cL_law 487 = .ok (.aload_n 1, 1) := by decide +kernel
theorem dL_law_488 : decode cL_law 488 = .ok (.aload_n 0, 1) := by decide +kernel
theorem dL_law_489 : decode cL_law 489 = .ok (.iload 4, 2) := by decide +kernel
theorem dL_law_491 : decode cL_law 491 = .ok (.iconst 1, 1) := by decide +kernel
theorem dL_law_492 : decode cL_law 492 = .ok (.iadd, 1) := by decide +kernel
theorem dL_law_493 : decode cL_law 493 = .ok (.iaload, 1) := by decide +kernel
theorem dL_law_494 : decode cL_law 494 = .ok (.invokevirtual 61, 3) := by decide +kernel
theorem dL_law_497 : decode cL_law 497 = .ok (.aload_n 2, 1) := by decide +kernel
theorem dL_law_498 : decode cL_law 498 = .ok (.aload_n 0, 1) := by decide +kernel
theorem dL_law_499 : decode cL_law 499 = .ok (.iload 4, 2) := by decide +kernel
theorem dL_law_501 : decode cL_law 501 = .ok (.iconst 1, 1) := by decide +kernel
theorem dL_law_502 : decode cL_law 502 = .ok (.iadd, 1) := by decide +kernel
theorem dL_law_503 : decode cL_law 503 = .ok (.iaload, 1) := by decide +kernel
theorem dL_law_504 : decode cL_law 504 = .ok (.invokevirtual 64, 3) := by decide +kernel
theorem dL_law_507 : decode cL_law 507 = .ok (.if_icmp .eq 775, 3) := by decide +kernel
theorem dL_law_510 : decode cL_law 510 = .ok (.iconst 0, 1) := by decide +kernel
theorem dL_law_511 : decode cL_law 511 = .ok (.ireturn, 1) := by decide +kernel
theorem dL_law_512 : decode cL_law 512 = .ok (.aload_n 1, 1) := by decide +kernel
theorem dL_law_513 : decode cL_law 513 = .ok (.aload_n 0, 1) := by decide +kernel
theorem dL_law_514 : decode cL_law 514 = .ok (.iload 4, 2) := by decide +kernel
theorem dL_law_516 : decode cL_law 516 = .ok (.iconst 1, 1) := by decide +kernel
theorem dL_law_517 : decode cL_law 517 = .ok (.iadd, 1) := by decide +kernel
theorem dL_law_518 : decode cL_law 518 = .ok (.iaload, 1) := by decide +kernel
theorem dL_law_519 : decode cL_law 519 = .ok (.aload_n 0, 1) := by decide +kernel
theorem dL_law_520 : decode cL_law 520 = .ok (.iload 4, 2) := by decide +kernel
theorem dL_law_522 : decode cL_law 522 = .ok (.iconst 2, 1) := by decide +kernel
theorem dL_law_523 : decode cL_law 523 = .ok (.iadd, 1) := by decide +kernel
theorem dL_law_524 : decode cL_law 524 = .ok (.iaload, 1) := by decide +kernel
theorem dL_law_525 : decode cL_law 525 = .ok (.invokevirtual 65, 3) := by decide +kernel
theorem dL_law_528 : decode cL_law 528 = .ok (.aload_n 2, 1) := by decide +kernel
theorem dL_law_529 : decode cL_law 529 = .ok (.aload_n 0, 1) := by decide +kernel
theorem dL_law_530 : decode cL_law 530 = .ok (.iload 4, 2) := by decide +kernel
theorem dL_law_532 : decode cL_law 532 = .ok (.iconst 1, 1) := by decide +kernel
theorem dL_law_533 : decode cL_law 533 = .ok (.iadd, 1) := by decide +kernel
theorem dL_law_534 : decode cL_law 534 = .ok (.iaload, 1) := by decide +kernel
theorem dL_law_535 : decode cL_law 535 = .ok (.aload_n 0, 1) := by decide +kernel
theorem dL_law_536 : decode cL_law 536 = .ok (.iload 4, 2) := by decide +kernel
theorem dL_law_538 : decode cL_law 538 = .ok (.iconst 2, 1) := by decide +kernel
theorem dL_law_539 : decode cL_law 539 = .ok (.iadd, 1) := by decide +kernel
theorem dL_law_540 : decode cL_law 540 = .ok (.iaload, 1) := by decide +kernel
theorem dL_law_541 : decode cL_law 541 = .ok (.invokevirtual 69, 3) := by decide +kernel
theorem dL_law_544 : decode cL_law 544 = .ok (.if_icmp .eq 738, 3) := by decide +kernel
theorem dL_law_547 : decode cL_law 547 = .ok (.iconst 0, 1) := by decide +kernel
theorem dL_law_548 : decode cL_law 548 = .ok (.ireturn, 1) := by decide +kernel
theorem dL_law_549 : decode cL_law 549 = .ok (.aload_n 1, 1) := by decide +kernel
theorem dL_law_550 : decode cL_law 550 = .ok (.aload_n 0, 1) := by decide +kernel
theorem dL_law_551 : decode cL_law 551 = .ok (.iload 4, 2) := by decide +kernel
theorem dL_law_553 : decode cL_law 553 = .ok (.iconst 1, 1) := by decide +kernel
theorem dL_law_554 : decode cL_law 554 = .ok (.iadd, 1) := by decide +kernel
theorem dL_law_555 : decode cL_law 555 = .ok (.iaload, 1) := by decide +kernel
theorem dL_law_556 : decode cL_law 556 = .ok (.aload_n 0, 1) := by decide +kernel
theorem dL_law_557 : decode cL_law 557 = .ok (.iload 4, 2) := by decide +kernel
theorem dL_law_559 : decode cL_law 559 = .ok (.iconst 2, 1) := by decide +kernel
theorem dL_law_560 : decode cL_law 560 = .ok (.iadd, 1) := by decide +kernel
theorem dL_law_561 : decode cL_law 561 = .ok (.iaload, 1) := by decide +kernel
theorem dL_law_562 : decode cL_law 562 = .ok (.invokevirtual 70, 3) := by decide +kernel
theorem dL_law_565 : decode cL_law 565 = .ok (.aload_n 2, 1) := by decide +kernel
theorem dL_law_566 : decode cL_law 566 = .ok (.aload_n 0, 1) := by decide +kernel
theorem dL_law_567 : decode cL_law 567 = .ok (.iload 4, 2) := by decide +kernel
theorem dL_law_569 : decode cL_law 569 = .ok (.iconst 1, 1) := by decide +kernel
theorem dL_law_570 : decode cL_law 570 = .ok (.iadd, 1) := by decide +kernel
theorem dL_law_571 : decode cL_law 571 = .ok (.iaload, 1) := by decide +kernel
theorem dL_law_572 : decode cL_law 572 = .ok (.aload_n 0, 1) := by decide +kernel
theorem dL_law_573 : decode cL_law 573 = .ok (.iload 4, 2) := by decide +kernel
theorem dL_law_575 : decode cL_law 575 = .ok (.iconst 2, 1) := by decide +kernel
theorem dL_law_576 : decode cL_law 576 = .ok (.iadd, 1) := by decide +kernel
theorem dL_law_577 : decode cL_law 577 = .ok (.iaload, 1) := by decide +kernel
theorem dL_law_578 : decode cL_law 578 = .ok (.invokevirtual 73, 3) := by decide +kernel
theorem dL_law_581 : decode cL_law 581 = .ok (.if_icmp .eq 701, 3) := by decide +kernel
theorem dL_law_584 : decode cL_law 584 = .ok (.iconst 0, 1) := by decide +kernel
theorem dL_law_585 : decode cL_law 585 = .ok (.ireturn, 1) := by decide +kernel
theorem dL_law_586 : decode cL_law 586 = .ok (.aload_n 1, 1) := by decide +kernel
theorem dL_law_587 : decode cL_law 587 = .ok (.aload_n 0, 1) := by decide +kernel
theorem dL_law_588 : decode cL_law 588 = .ok (.iload 4, 2) := by decide +kernel
theorem dL_law_590 : decode cL_law 590 = .ok (.iconst 1, 1) := by decide +kernel
theorem dL_law_591 : decode cL_law 591 = .ok (.iadd, 1) := by decide +kernel
theorem dL_law_592 : decode cL_law 592 = .ok (.iaload, 1) := by decide +kernel
theorem dL_law_593 : decode cL_law 593 = .ok (.invokevirtual 74, 3) := by decide +kernel
theorem dL_law_596 : decode cL_law 596 = .ok (.aload_n 2, 1) := by decide +kernel
theorem dL_law_597 : decode cL_law 597 = .ok (.aload_n 0, 1) := by decide +kernel
theorem dL_law_598 : decode cL_law 598 = .ok (.iload 4, 2) := by decide +kernel
theorem dL_law_600 : decode cL_law 600 = .ok (.iconst 1, 1) := by decide +kernel
theorem dL_law_601 : decode cL_law 601 = .ok (.iadd, 1) := by decide +kernel
theorem dL_law_602 : decode cL_law 602 = .ok (.iaload, 1) := by decide +kernel
theorem dL_law_603 : decode cL_law 603 = .ok (.invokevirtual 77, 3) := by decide +kernel
theorem dL_law_606 : decode cL_law 606 = .ok (.if_icmp .eq 676, 3) := by decide +kernel
theorem dL_law_609 : decode cL_law 609 = .ok (.iconst 0, 1) := by decide +kernel
theorem dL_law_610 : decode cL_law 610 = .ok (.ireturn, 1) := by decide +kernel
theorem dL_law_611 : decode cL_law 611 = .ok (.aload_n 1, 1) := by decide +kernel
theorem dL_law_612 : decode cL_law 612 = .ok (.aload_n 0, 1) := by decide +kernel
theorem dL_law_613 : decode cL_law 613 = .ok (.iload 4, 2) := by decide +kernel
theorem dL_law_615 : decode cL_law 615 = .ok (.iconst 1, 1) := by decide +kernel
theorem dL_law_616 : decode cL_law 616 = .ok (.iadd, 1) := by decide +kernel
theorem dL_law_617 : decode cL_law 617 = .ok (.iaload, 1) := by decide +kernel
theorem dL_law_618 : decode cL_law 618 = .ok (.invokevirtual 78, 3) := by decide +kernel
theorem dL_law_621 : decode cL_law 621 = .ok (.aload_n 2, 1) := by decide +kernel
theorem dL_law_622 : decode cL_law 622 = .ok (.aload_n 0, 1) := by decide +kernel
theorem dL_law_623 : decode cL_law 623 = .ok (.iload 4, 2) := by decide +kernel
theorem dL_law_625 : decode cL_law 625 = .ok (.iconst 1, 1) := by decide +kernel
theorem dL_law_626 : decode cL_law 626 = .ok (.iadd, 1) := by decide +kernel
theorem dL_law_627 : decode cL_law 627 = .ok (.iaload, 1) := by decide +kernel
theorem dL_law_628 : decode cL_law 628 = .ok (.invokevirtual 81, 3) := by decide +kernel
theorem dL_law_631 : decode cL_law 631 = .ok (.if_icmp .eq 651, 3) := by decide +kernel
theorem dL_law_634 : decode cL_law 634 = .ok (.iconst 0, 1) := by decide +kernel
theorem dL_law_635 : decode cL_law 635 = .ok (.ireturn, 1) := by decide +kernel
theorem dL_law_636 : decode cL_law 636 = .ok (.aload_n 1, 1) := by decide +kernel
theorem dL_law_637 : decode cL_law 637 = .ok (.aload_n 0, 1) := by decide +kernel
theorem dL_law_638 : decode cL_law 638 = .ok (.iload 4, 2) := by decide +kernel
theorem dL_law_640 : decode cL_law 640 = .ok (.iconst 1, 1) := by decide +kernel
theorem dL_law_641 : decode cL_law 641 = .ok (.iadd, 1) := by decide +kernel
theorem dL_law_642 : decode cL_law 642 = .ok (.iaload, 1) := by decide +kernel
theorem dL_law_643 : decode cL_law 643 = .ok (.aload_n 0, 1) := by decide +kernel
theorem dL_law_644 : decode cL_law 644 = .ok (.iload 4, 2) := by decide +kernel
theorem dL_law_646 : decode cL_law 646 = .ok (.iconst 2, 1) := by decide +kernel
theorem dL_law_647 : decode cL_law 647 = .ok (.iadd, 1) := by decide +kernel
theorem dL_law_648 : decode cL_law 648 = .ok (.iaload, 1) := by decide +kernel
theorem dL_law_649 : decode cL_law 649 = .ok (.aload_n 0, 1) := by decide +kernel
theorem dL_law_650 : decode cL_law 650 = .ok (.iload 4, 2) := by decide +kernel
theorem dL_law_652 : decode cL_law 652 = .ok (.iconst 3, 1) := by decide +kernel
theorem dL_law_653 : decode cL_law 653 = .ok (.iadd, 1) := by decide +kernel
theorem dL_law_654 : decode cL_law 654 = .ok (.iaload, 1) := by decide +kernel
theorem dL_law_655 : decode cL_law 655 = .ok (.invokevirtual 82, 3) := by decide +kernel
theorem dL_law_658 : decode cL_law 658 = .ok (.aload_n 2, 1) := by decide +kernel
theorem dL_law_659 : decode cL_law 659 = .ok (.aload_n 0, 1) := by decide +kernel
theorem dL_law_660 : decode cL_law 660 = .ok (.iload 4, 2) := by decide +kernel
theorem dL_law_662 : decode cL_law 662 = .ok (.iconst 1, 1) := by decide +kernel
theorem dL_law_663 : decode cL_law 663 = .ok (.iadd, 1) := by decide +kernel
theorem dL_law_664 : decode cL_law 664 = .ok (.iaload, 1) := by decide +kernel
theorem dL_law_665 : decode cL_law 665 = .ok (.aload_n 0, 1) := by decide +kernel
theorem dL_law_666 : decode cL_law 666 = .ok (.iload 4, 2) := by decide +kernel
theorem dL_law_668 : decode cL_law 668 = .ok (.iconst 2, 1) := by decide +kernel
theorem dL_law_669 : decode cL_law 669 = .ok (.iadd, 1) := by decide +kernel
theorem dL_law_670 : decode cL_law 670 = .ok (.iaload, 1) := by decide +kernel
theorem dL_law_671 : decode cL_law 671 = .ok (.aload_n 0, 1) := by decide +kernel
theorem dL_law_672 : decode cL_law 672 = .ok (.iload 4, 2) := by decide +kernel
theorem dL_law_674 : decode cL_law 674 = .ok (.iconst 3, 1) := by decide +kernel
theorem dL_law_675 : decode cL_law 675 = .ok (.iadd, 1) := by decide +kernel
theorem dL_law_676 : decode cL_law 676 = .ok (.iaload, 1) := by decide +kernel
theorem dL_law_677 : decode cL_law 677 = .ok (.invokevirtual 86, 3) := by decide +kernel
theorem dL_law_680 : decode cL_law 680 = .ok (.if_icmp .eq 602, 3) := by decide +kernel
theorem dL_law_683 : decode cL_law 683 = .ok (.iconst 0, 1) := by decide +kernel
theorem dL_law_684 : decode cL_law 684 = .ok (.ireturn, 1) := by decide +kernel
theorem dL_law_685 : decode cL_law 685 = .ok (.aload_n 1, 1) := by decide +kernel
theorem dL_law_686 : decode cL_law 686 = .ok (.aload_n 0, 1) := by decide +kernel
theorem dL_law_687 : decode cL_law 687 = .ok (.iload 4, 2) := by decide +kernel
theorem dL_law_689 : decode cL_law 689 = .ok (.iconst 1, 1) := by decide +kernel
theorem dL_law_690 : decode cL_law 690 = .ok (.iadd, 1) := by decide +kernel
theorem dL_law_691 : decode cL_law 691 = .ok (.iaload, 1) := by decide +kernel
theorem dL_law_692 : decode cL_law 692 = .ok (.invokevirtual 87, 3) := by decide +kernel
theorem dL_law_695 : decode cL_law 695 = .ok (.aload_n 2, 1) := by decide +kernel
theorem dL_law_696 : decode cL_law 696 = .ok (.aload_n 0, 1) := by decide +kernel
theorem dL_law_697 : decode cL_law 697 = .ok (.iload 4, 2) := by decide +kernel
theorem dL_law_699 : decode cL_law 699 = .ok (.iconst 1, 1) := by decide +kernel
theorem dL_law_700 : decode cL_law 700 = .ok (.iadd, 1) := by decide +kernel
theorem dL_law_701 : decode cL_law 701 = .ok (.iaload, 1) := by decide +kernel
theorem dL_law_702 : decode cL_law 702 = .ok (.invokevirtual 90, 3) := by decide +kernel
theorem dL_law_705 : decode cL_law 705 = .ok (.if_icmp .eq 577, 3) := by decide +kernel
theorem dL_law_708 : decode cL_law 708 = .ok (.iconst 0, 1) := by decide +kernel
theorem dL_law_709 : decode cL_law 709 = .ok (.ireturn, 1) := by decide +kernel
theorem dL_law_710 : decode cL_law 710 = .ok (.aload_n 1, 1) := by decide +kernel
theorem dL_law_711 : decode cL_law 711 = .ok (.aload_n 0, 1) := by decide +kernel
theorem dL_law_712 : decode cL_law 712 = .ok (.iload 4, 2) := by decide +kernel
theorem dL_law_714 : decode cL_law 714 = .ok (.iconst 1, 1) := by decide +kernel
theorem dL_law_715 : decode cL_law 715 = .ok (.iadd, 1) := by decide +kernel
theorem dL_law_716 : decode cL_law 716 = .ok (.iaload, 1) := by decide +kernel
theorem dL_law_717 : decode cL_law 717 = .ok (.aload_n 0, 1) := by decide +kernel
theorem dL_law_718 : decode cL_law 718 = .ok (.iload 4, 2) := by decide +kernel
theorem dL_law_720 : decode cL_law 720 = .ok (.iconst 2, 1) := by decide +kernel
theorem dL_law_721 : decode cL_law 721 = .ok (.iadd, 1) := by decide +kernel
theorem dL_law_722 : decode cL_law 722 = .ok (.iaload, 1) := by decide +kernel
theorem dL_law_723 : decode cL_law 723 = .ok (.invokevirtual 91, 3) := by decide +kernel
theorem dL_law_726 : decode cL_law 726 = .ok (.aload_n 2, 1) := by decide +kernel
theorem dL_law_727 : decode cL_law 727 = .ok (.aload_n 0, 1) := by decide +kernel
theorem dL_law_728 : decode cL_law 728 = .ok (.iload 4, 2) := by decide +kernel
theorem dL_law_730 : decode cL_law 730 = .ok (.iconst 1, 1) := by decide +kernel
theorem dL_law_731 : decode cL_law 731 = .ok (.iadd, 1) := by decide +kernel
theorem dL_law_732 : decode cL_law 732 = .ok (.iaload, 1) := by decide +kernel
theorem dL_law_733 : decode cL_law 733 = .ok (.aload_n 0, 1) := by decide +kernel
theorem dL_law_734 : decode cL_law 734 = .ok (.iload 4, 2) := by decide +kernel
theorem dL_law_736 : decode cL_law 736 = .ok (.iconst 2, 1) := by decide +kernel
theorem dL_law_737 : decode cL_law 737 = .ok (.iadd, 1) := by decide +kernel
theorem dL_law_738 : decode cL_law 738 = .ok (.iaload, 1) := by decide +kernel
theorem dL_law_739 : decode cL_law 739 = .ok (.invokevirtual 94, 3) := by decide +kernel
theorem dL_law_742 : decode cL_law 742 = .ok (.if_icmp .eq 540, 3) := by decide +kernel
theorem dL_law_745 : decode cL_law 745 = .ok (.iconst 0, 1) := by decide +kernel
theorem dL_law_746 : decode cL_law 746 = .ok (.ireturn, 1) := by decide +kernel
theorem dL_law_747 : decode cL_law 747 = .ok (.aload_n 1, 1) := by decide +kernel
theorem dL_law_748 : decode cL_law 748 = .ok (.invokevirtual 95, 3) := by decide +kernel
theorem dL_law_751 : decode cL_law 751 = .ok (.aload_n 2, 1) := by decide +kernel
theorem dL_law_752 : decode cL_law 752 = .ok (.invokevirtual 98, 3) := by decide +kernel
theorem dL_law_755 : decode cL_law 755 = .ok (.if_icmp .eq 527, 3) := by decide +kernel
theorem dL_law_758 : decode cL_law 758 = .ok (.iconst 0, 1) := by decide +kernel
theorem dL_law_759 : decode cL_law 759 = .ok (.ireturn, 1) := by decide +kernel
theorem dL_law_760 : decode cL_law 760 = .ok (.aload_n 1, 1) := by decide +kernel
theorem dL_law_761 : decode cL_law 761 = .ok (.aload_n 0, 1) := by decide +kernel
theorem dL_law_762 : decode cL_law 762 = .ok (.iload 4, 2) := by decide +kernel
theorem dL_law_764 : decode cL_law 764 = .ok (.iconst 1, 1) := by decide +kernel
theorem dL_law_765 : decode cL_law 765 = .ok (.iadd, 1) := by decide +kernel
theorem dL_law_766 : decode cL_law 766 = .ok (.iaload, 1) := by decide +kernel
theorem dL_law_767 : decode cL_law 767 = .ok (.aload_n 0, 1) := by decide +kernel
theorem dL_law_768 : decode cL_law 768 = .ok (.iload 4, 2) := by decide +kernel
theorem dL_law_770 : decode cL_law 770 = .ok (.iconst 2, 1) := by decide +kernel
theorem dL_law_771 : decode cL_law 771 = .ok (.iadd, 1) := by decide +kernel
theorem dL_law_772 : decode cL_law 772 = .ok (.iaload, 1) := by decide +kernel
theorem dL_law_773 : decode cL_law 773 = .ok (.invokevirtual 99, 3) := by decide +kernel
theorem dL_law_776 : decode cL_law 776 = .ok (.aload_n 2, 1) := by decide +kernel
theorem dL_law_777 : decode cL_law 777 = .ok (.aload_n 0, 1) := by decide +kernel
theorem dL_law_778 : decode cL_law 778 = .ok (.iload 4, 2) := by decide +kernel
theorem dL_law_780 : decode cL_law 780 = .ok (.iconst 1, 1) := by decide +kernel
theorem dL_law_781 : decode cL_law 781 = .ok (.iadd, 1) := by decide +kernel
theorem dL_law_782 : decode cL_law 782 = .ok (.iaload, 1) := by decide +kernel
theorem dL_law_783 : decode cL_law 783 = .ok (.aload_n 0, 1) := by decide +kernel
theorem dL_law_784 : decode cL_law 784 = .ok (.iload 4, 2) := by decide +kernel
theorem dL_law_786 : decode cL_law 786 = .ok (.iconst 2, 1) := by decide +kernel
theorem dL_law_787 : decode cL_law 787 = .ok (.iadd, 1) := by decide +kernel
theorem dL_law_788 : decode cL_law 788 = .ok (.iaload, 1) := by decide +kernel
theorem dL_law_789 : decode cL_law 789 = .ok (.invokevirtual 102, 3) := by decide +kernel
theorem dL_law_792 : decode cL_law 792 = .ok (.if_icmp .eq 490, 3) := by decide +kernel
theorem dL_law_795 : decode cL_law 795 = .ok (.iconst 0, 1) := by decide +kernel
theorem dL_law_796 : decode cL_law 796 = .ok (.ireturn, 1) := by decide +kernel
theorem dL_law_797 : decode cL_law 797 = .ok (.aload_n 1, 1) := by decide +kernel
theorem dL_law_798 : decode cL_law 798 = .ok (.invokevirtual 103, 3) := by decide +kernel
theorem dL_law_801 : decode cL_law 801 = .ok (.aload_n 2, 1) := by decide +kernel
theorem dL_law_802 : decode cL_law 802 = .ok (.invokevirtual 106, 3) := by decide +kernel
theorem dL_law_805 : decode cL_law 805 = .ok (.if_icmp .eq 477, 3) := by decide +kernel
theorem dL_law_808 : decode cL_law 808 = .ok (.iconst 0, 1) := by decide +kernel
theorem dL_law_809 : decode cL_law 809 = .ok (.ireturn, 1) := by decide +kernel
theorem dL_law_810 : decode cL_law 810 = .ok (.aload_n 1, 1) := by decide +kernel
theorem dL_law_811 : decode cL_law 811 = .ok (.aload_n 0, 1) := by decide +kernel
theorem dL_law_812 : decode cL_law 812 = .ok (.iload 4, 2) := by decide +kernel
theorem dL_law_814 : decode cL_law 814 = .ok (.iconst 1, 1) := by decide +kernel
theorem dL_law_815 : decode cL_law 815 = .ok (.iadd, 1) := by decide +kernel
theorem dL_law_816 : decode cL_law 816 = .ok (.iaload, 1) := by decide +kernel
theorem dL_law_817 : decode cL_law 817 = .ok (.aload_n 0, 1) := by decide +kernel
theorem dL_law_818 : decode cL_law 818 = .ok (.iload 4, 2) := by decide +kernel
theorem dL_law_820 : decode cL_law 820 = .ok (.iconst 2, 1) := by decide +kernel
theorem dL_law_821 : decode cL_law 821 = .ok (.iadd, 1) := by decide +kernel
theorem dL_law_822 : decode cL_law 822 = .ok (.iaload, 1) := by decide +kernel
theorem dL_law_823 : decode cL_law 823 = .ok (.invokevirtual 107, 3) := by decide +kernel
theorem dL_law_826 : decode cL_law 826 = .ok (.aload_n 2, 1) := by decide +kernel
theorem dL_law_827 : decode cL_law 827 = .ok (.aload_n 0, 1) := by decide +kernel
theorem dL_law_828 : decode cL_law 828 = .ok (.iload 4, 2) := by decide +kernel
theorem dL_law_830 : decode cL_law 830 = .ok (.iconst 1, 1) := by decide +kernel
theorem dL_law_831 : decode cL_law 831 = .ok (.iadd, 1) := by decide +kernel
theorem dL_law_832 : decode cL_law 832 = .ok (.iaload, 1) := by decide +kernel
theorem dL_law_833 : decode cL_law 833 = .ok (.aload_n 0, 1) := by decide +kernel
theorem dL_law_834 : decode cL_law 834 = .ok (.iload 4, 2) := by decide +kernel
theorem dL_law_836 : decode cL_law 836 = .ok (.iconst 2, 1) := by decide +kernel
theorem dL_law_837 : decode cL_law 837 = .ok (.iadd, 1) := by decide +kernel
theorem dL_law_838 : decode cL_law 838 = .ok (.iaload, 1) := by decide +kernel
theorem dL_law_839 : decode cL_law 839 = .ok (.invokevirtual 110, 3) := by decide +kernel
theorem dL_law_842 : decode cL_law 842 = .ok (.if_icmp .eq 440, 3) := by decide +kernel
theorem dL_law_845 : decode cL_law 845 = .ok (.iconst 0, 1) := by decide +kernel
theorem dL_law_846 : decode cL_law 846 = .ok (.ireturn, 1) := by decide +kernel
theorem dL_law_847 : decode cL_law 847 = .ok (.aload_n 1, 1) := by decide +kernel
theorem dL_law_848 : decode cL_law 848 = .ok (.aload_n 0, 1) := by decide +kernel
theorem dL_law_849 : decode cL_law 849 = .ok (.iload 4, 2) := by decide +kernel
theorem dL_law_851 : decode cL_law 851 = .ok (.iconst 1, 1) := by decide +kernel
theorem dL_law_852 : decode cL_law 852 = .ok (.iadd, 1) := by decide +kernel
theorem dL_law_853 : decode cL_law 853 = .ok (.iaload, 1) := by decide +kernel
theorem dL_law_854 : decode cL_law 854 = .ok (.aload_n 0, 1) := by decide +kernel
theorem dL_law_855 : decode cL_law 855 = .ok (.iload 4, 2) := by decide +kernel
theorem dL_law_857 : decode cL_law 857 = .ok (.iconst 2, 1) := by decide +kernel
theorem dL_law_858 : decode cL_law 858 = .ok (.iadd, 1) := by decide +kernel
theorem dL_law_859 : decode cL_law 859 = .ok (.iaload, 1) := by decide +kernel
theorem dL_law_860 : decode cL_law 860 = .ok (.invokevirtual 111, 3) := by decide +kernel
theorem dL_law_863 : decode cL_law 863 = .ok (.aload_n 2, 1) := by decide +kernel
theorem dL_law_864 : decode cL_law 864 = .ok (.aload_n 0, 1) := by decide +kernel
theorem dL_law_865 : decode cL_law 865 = .ok (.iload 4, 2) := by decide +kernel
theorem dL_law_867 : decode cL_law 867 = .ok (.iconst 1, 1) := by decide +kernel
theorem dL_law_868 : decode cL_law 868 = .ok (.iadd, 1) := by decide +kernel
theorem dL_law_869 : decode cL_law 869 = .ok (.iaload, 1) := by decide +kernel
theorem dL_law_870 : decode cL_law 870 = .ok (.aload_n 0, 1) := by decide +kernel
theorem dL_law_871 : decode cL_law 871 = .ok (.iload 4, 2) := by decide +kernel
theorem dL_law_873 : decode cL_law 873 = .ok (.iconst 2, 1) := by decide +kernel
theorem dL_law_874 : decode cL_law 874 = .ok (.iadd, 1) := by decide +kernel
theorem dL_law_875 : decode cL_law 875 = .ok (.iaload, 1) := by decide +kernel
theorem dL_law_876 : decode cL_law 876 = .ok (.invokevirtual 114, 3) := by decide +kernel
theorem dL_law_879 : decode cL_law 879 = .ok (.if_icmp .eq 403, 3) := by decide +kernel
theorem dL_law_882 : decode cL_law 882 = .ok (.iconst 0, 1) := by decide +kernel
theorem dL_law_883 : decode cL_law 883 = .ok (.ireturn, 1) := by decide +kernel
theorem dL_law_884 : decode cL_law 884 = .ok (.aload_n 1, 1) := by decide +kernel
theorem dL_law_885 : decode cL_law 885 = .ok (.aload_n 0, 1) := by decide +kernel
theorem dL_law_886 : decode cL_law 886 = .ok (.iload 4, 2) := by decide +kernel
theorem dL_law_888 : decode cL_law 888 = .ok (.iconst 1, 1) := by decide +kernel
theorem dL_law_889 : decode cL_law 889 = .ok (.iadd, 1) := by decide +kernel
theorem dL_law_890 : decode cL_law 890 = .ok (.iaload, 1) := by decide +kernel
theorem dL_law_891 : decode cL_law 891 = .ok (.invokevirtual 115, 3) := by decide +kernel
theorem dL_law_894 : decode cL_law 894 = .ok (.aload_n 2, 1) := by decide +kernel
theorem dL_law_895 : decode cL_law 895 = .ok (.aload_n 0, 1) := by decide +kernel
theorem dL_law_896 : decode cL_law 896 = .ok (.iload 4, 2) := by decide +kernel
theorem dL_law_898 : decode cL_law 898 = .ok (.iconst 1, 1) := by decide +kernel
theorem dL_law_899 : decode cL_law 899 = .ok (.iadd, 1) := by decide +kernel
theorem dL_law_900 : decode cL_law 900 = .ok (.iaload, 1) := by decide +kernel
theorem dL_law_901 : decode cL_law 901 = .ok (.invokevirtual 118, 3) := by decide +kernel
theorem dL_law_904 : decode cL_law 904 = .ok (.if_icmp .eq 378, 3) := by decide +kernel
theorem dL_law_907 : decode cL_law 907 = .ok (.iconst 0, 1) := by decide +kernel
theorem dL_law_908 : decode cL_law 908 = .ok (.ireturn, 1) := by decide +kernel
theorem dL_law_909 : decode cL_law 909 = .ok (.aload_n 1, 1) := by decide +kernel
theorem dL_law_910 : decode cL_law 910 = .ok (.aload_n 0, 1) := by decide +kernel
theorem dL_law_911 : decode cL_law 911 = .ok (.iload 4, 2) := by decide +kernel
theorem dL_law_913 : decode cL_law 913 = .ok (.iconst 1, 1) := by decide +kernel
theorem dL_law_914 : decode cL_law 914 = .ok (.iadd, 1) := by decide +kernel
theorem dL_law_915 : decode cL_law 915 = .ok (.iaload, 1) := by decide +kernel
theorem dL_law_916 : decode cL_law 916 = .ok (.aload_n 3, 1) := by decide +kernel
theorem dL_law_917 : decode cL_law 917 = .ok (.invokestatic 119, 3) := by decide +kernel
theorem dL_law_920 : decode cL_law 920 = .ok (.istore 5, 2) := by decide +kernel
theorem dL_law_922 : decode cL_law 922 = .ok (.aload_n 2, 1) := by decide +kernel
theorem dL_law_923 : decode cL_law 923 = .ok (.aload_n 0, 1) := by decide +kernel
theorem dL_law_924 : decode cL_law 924 = .ok (.iload 4, 2) := by decide +kernel
theorem dL_law_926 : decode cL_law 926 = .ok (.iconst 1, 1) := by decide +kernel
theorem dL_law_927 : decode cL_law 927 = .ok (.iadd, 1) := by decide +kernel
theorem dL_law_928 : decode cL_law 928 = .ok (.iaload, 1) := by decide +kernel
theorem dL_law_929 : decode cL_law 929 = .ok (.invokevirtual 124, 3) := by decide +kernel
theorem dL_law_932 : decode cL_law 932 = .ok (.istore 6, 2) := by decide +kernel
theorem dL_law_934 : decode cL_law 934 = .ok (.aload_n 2, 1) := by decide +kernel
theorem dL_law_935 : decode cL_law 935 = .ok (.invokevirtual 125, 3) := by decide +kernel
theorem dL_law_938 : decode cL_law 938 = .ok (.iload 5, 2) := by decide +kernel
theorem dL_law_940 : decode cL_law 940 = .ok (.if_icmp .eq 5, 3) := by decide +kernel
theorem dL_law_943 : decode cL_law 943 = .ok (.iconst 0, 1) := by decide +kernel
theorem dL_law_944 : decode cL_law 944 = .ok (.ireturn, 1) := by decide +kernel
theorem dL_law_945 : decode cL_law 945 = .ok (.iload 5, 2) := by decide +kernel
theorem dL_law_947 : decode cL_law 947 = .ok (.ifCond .ne 15, 3) := by decide +kernel
theorem dL_law_950 : decode cL_law 950 = .ok (.aload_n 3, 1) := by decide +kernel
theorem dL_law_951 : decode cL_law 951 = .ok (.iconst 0, 1) := by decide +kernel
theorem dL_law_952 : decode cL_law 952 = .ok (.laload, 1) := by decide +kernel
theorem dL_law_953 : decode cL_law 953 = .ok (.iload 6, 2) := by decide +kernel
theorem dL_law_955 : decode cL_law 955 = .ok (.i2l, 1) := by decide +kernel
theorem dL_law_956 : decode cL_law 956 = .ok (.lcmp, 1) := by decide +kernel
theorem dL_law_957 : decode cL_law 957 = .ok (.ifCond .eq 5, 3) := by decide +kernel
theorem dL_law_960 : decode cL_law 960 = .ok (.iconst 0, 1) := by decide +kernel
theorem dL_law_961 : decode cL_law 961 = .ok (.ireturn, 1) := by decide +kernel
theorem dL_law_962 : decode cL_law 962 = .ok (.goto 320, 3) := by decide +kernel
theorem dL_law_965 : decode cL_law 965 = .ok (.aload_n 1, 1) := by decide +kernel
theorem dL_law_966 : decode cL_law 966 = .ok (.aload_n 0, 1) := by decide +kernel
theorem dL_law_967 : decode cL_law 967 = .ok (.iload 4, 2) := by decide +kernel
theorem dL_law_969 : decode cL_law 969 = .ok (.iconst 1, 1) := by decide +kernel
theorem dL_law_970 : decode cL_law 970 = .ok (.iadd, 1) := by decide +kernel
theorem dL_law_971 : decode cL_law 971 = .ok (.iaload, 1) := by decide +kernel
theorem dL_law_972 : decode cL_law 972 = .ok (.invokevirtual 128, 3) := by decide +kernel
theorem dL_law_975 : decode cL_law 975 = .ok (.aload_n 2, 1) := by decide +kernel
theorem dL_law_976 : decode cL_law 976 = .ok (.aload_n 0, 1) := by decide +kernel
theorem dL_law_977 : decode cL_law 977 = .ok (.iload 4, 2) := by decide +kernel
theorem dL_law_979 : decode cL_law 979 = .ok (.iconst 1, 1) := by decide +kernel
theorem dL_law_980 : decode cL_law 980 = .ok (.iadd, 1) := by decide +kernel
theorem dL_law_981 : decode cL_law 981 = .ok (.iaload, 1) := by decide +kernel
theorem dL_law_982 : decode cL_law 982 = .ok (.invokevirtual 131, 3) := by decide +kernel
theorem dL_law_985 : decode cL_law 985 = .ok (.if_icmp .eq 297, 3) := by decide +kernel
theorem dL_law_988 : decode cL_law 988 = .ok (.iconst 0, 1) := by decide +kernel
theorem dL_law_989 : decode cL_law 989 = .ok (.ireturn, 1) := by decide +kernel
theorem dL_law_990 : decode cL_law 990 = .ok (.aload_n 1, 1) := by decide +kernel
theorem dL_law_991 : decode cL_law 991 = .ok (.aload_n 0, 1) := by decide +kernel
theorem dL_law_992 : decode cL_law 992 = .ok (.iload 4, 2) := by decide +kernel
theorem dL_law_994 : decode cL_law 994 = .ok (.iconst 1, 1) := by decide +kernel
theorem dL_law_995 : decode cL_law 995 = .ok (.iadd, 1) := by decide +kernel
theorem dL_law_996 : decode cL_law 996 = .ok (.iaload, 1) := by decide +kernel
theorem dL_law_997 : decode cL_law 997 = .ok (.aload_n 0, 1) := by decide +kernel
theorem dL_law_998 : decode cL_law 998 = .ok (.iload 4, 2) := by decide +kernel
theorem dL_law_1000 : decode cL_law 1000 = .ok (.iconst 2, 1) := by decide +kernel
theorem dL_law_1001 : decode cL_law 1001 = .ok (.iadd, 1) := by decide +kernel
theorem dL_law_1002 : decode cL_law 1002 = .ok (.iaload, 1) := by decide +kernel
theorem dL_law_1003 : decode cL_law 1003 = .ok (.invokevirtual 132, 3) := by decide +kernel
theorem dL_law_1006 : decode cL_law 1006 = .ok (.aload_n 2, 1) := by decide +kernel
theorem dL_law_1007 : decode cL_law 1007 = .ok (.aload_n 0, 1) := by decide +kernel
theorem dL_law_1008 : decode cL_law 1008 = .ok (.iload 4, 2) := by decide +kernel
theorem dL_law_1010 : decode cL_law 1010 = .ok (.iconst 1, 1) := by decide +kernel
theorem dL_law_1011 : decode cL_law 1011 = .ok (.iadd, 1) := by decide +kernel
theorem dL_law_1012 : decode cL_law 1012 = .ok (.iaload, 1) := by decide +kernel
theorem dL_law_1013 : decode cL_law 1013 = .ok (.aload_n 0, 1) := by decide +kernel
theorem dL_law_1014 : decode cL_law 1014 = .ok (.iload 4, 2) := by decide +kernel
theorem dL_law_1016 : decode cL_law 1016 = .ok (.iconst 2, 1) := by decide +kernel
theorem dL_law_1017 : decode cL_law 1017 = .ok (.iadd, 1) := by decide +kernel
theorem dL_law_1018 : decode cL_law 1018 = .ok (.iaload, 1) := by decide +kernel
theorem dL_law_1019 : decode cL_law 1019 = .ok (.invokevirtual 135, 3) := by decide +kernel
theorem dL_law_1022 : decode cL_law 1022 = .ok (.if_icmp .eq 260, 3) := by decide +kernel
theorem dL_law_1025 : decode cL_law 1025 = .ok (.iconst 0, 1) := by decide +kernel
theorem dL_law_1026 : decode cL_law 1026 = .ok (.ireturn, 1) := by decide +kernel
theorem dL_law_1027 : decode cL_law 1027 = .ok (.aload_n 1, 1) := by decide +kernel
theorem dL_law_1028 : decode cL_law 1028 = .ok (.aload_n 0, 1) := by decide +kernel
theorem dL_law_1029 : decode cL_law 1029 = .ok (.iload 4, 2) := by decide +kernel
theorem dL_law_1031 : decode cL_law 1031 = .ok (.iconst 1, 1) := by decide +kernel
theorem dL_law_1032 : decode cL_law 1032 = .ok (.iadd, 1) := by decide +kernel
theorem dL_law_1033 : decode cL_law 1033 = .ok (.iaload, 1) := by decide +kernel
theorem dL_law_1034 : decode cL_law 1034 = .ok (.invokevirtual 136, 3) := by decide +kernel
theorem dL_law_1037 : decode cL_law 1037 = .ok (.aload_n 2, 1) := by decide +kernel
theorem dL_law_1038 : decode cL_law 1038 = .ok (.aload_n 0, 1) := by decide +kernel
theorem dL_law_1039 : decode cL_law 1039 = .ok (.iload 4, 2) := by decide +kernel
theorem dL_law_1041 : decode cL_law 1041 = .ok (.iconst 1, 1) := by decide +kernel
theorem dL_law_1042 : decode cL_law 1042 = .ok (.iadd, 1) := by decide +kernel
theorem dL_law_1043 : decode cL_law 1043 = .ok (.iaload, 1) := by decide +kernel
theorem dL_law_1044 : decode cL_law 1044 = .ok (.invokevirtual 139, 3) := by decide +kernel
theorem dL_law_1047 : decode cL_law 1047 = .ok (.if_icmp .eq 235, 3) := by decide +kernel
theorem dL_law_1050 : decode cL_law 1050 = .ok (.iconst 0, 1) := by decide +kernel
theorem dL_law_1051 : decode cL_law 1051 = .ok (.ireturn, 1) := by decide +kernel
theorem dL_law_1052 : decode cL_law 1052 = .ok (.aload_n 1, 1) := by decide +kernel
theorem dL_law_1053 : decode cL_law 1053 = .ok (.aload_n 0, 1) := by decide +kernel
theorem dL_law_1054 : decode cL_law 1054 = .ok (.iload 4, 2) := by decide +kernel
theorem dL_law_1056 : decode cL_law 1056 = .ok (.iconst 1, 1) := by decide +kernel
theorem dL_law_1057 : decode cL_law 1057 = .ok (.iadd, 1) := by decide +kernel
theorem dL_law_1058 : decode cL_law 1058 = .ok (.iaload, 1) := by decide +kernel
theorem dL_law_1059 : decode cL_law 1059 = .ok (.aload_n 0, 1) := by decide +kernel
theorem dL_law_1060 : decode cL_law 1060 = .ok (.iload 4, 2) := by decide +kernel
theorem dL_law_1062 : decode cL_law 1062 = .ok (.iconst 2, 1) := by decide +kernel
theorem dL_law_1063 : decode cL_law 1063 = .ok (.iadd, 1) := by decide +kernel
theorem dL_law_1064 : decode cL_law 1064 = .ok (.iaload, 1) := by decide +kernel
theorem dL_law_1065 : decode cL_law 1065 = .ok (.aload_n 0, 1) := by decide +kernel
theorem dL_law_1066 : decode cL_law 1066 = .ok (.iload 4, 2) := by decide +kernel
theorem dL_law_1068 : decode cL_law 1068 = .ok (.iconst 3, 1) := by decide +kernel
theorem dL_law_1069 : decode cL_law 1069 = .ok (.iadd, 1) := by decide +kernel
theorem dL_law_1070 : decode cL_law 1070 = .ok (.iaload, 1) := by decide +kernel
theorem dL_law_1071 : decode cL_law 1071 = .ok (.ifCond .eq 7, 3) := by decide +kernel
theorem dL_law_1074 : decode cL_law 1074 = .ok (.iconst 1, 1) := by decide +kernel
theorem dL_law_1075 : decode cL_law 1075 = .ok (.goto 4, 3) := by decide +kernel
theorem dL_law_1078 : decode cL_law 1078 = .ok (.iconst 0, 1) := by decide +kernel
theorem dL_law_1079 : decode cL_law 1079 = .ok (.invokevirtual 140, 3) := by decide +kernel
theorem dL_law_1082 : decode cL_law 1082 = .ok (.aload_n 2, 1) := by decide +kernel
theorem dL_law_1083 : decode cL_law 1083 = .ok (.aload_n 0, 1) := by decide +kernel
theorem dL_law_1084 : decode cL_law 1084 = .ok (.iload 4, 2) := by decide +kernel
theorem dL_law_1086 : decode cL_law 1086 = .ok (.iconst 1, 1) := by decide +kernel
theorem dL_law_1087 : decode cL_law 1087 = .ok (.iadd, 1) := by decide +kernel
theorem dL_law_1088 : decode cL_law 1088 = .ok (.iaload, 1) := by decide +kernel
theorem dL_law_1089 : decode cL_law 1089 = .ok (.aload_n 0, 1) := by decide +kernel
theorem dL_law_1090 : decode cL_law 1090 = .ok (.iload 4, 2) := by decide +kernel
theorem dL_law_1092 : decode cL_law 1092 = .ok (.iconst 2, 1) := by decide +kernel
theorem dL_law_1093 : decode cL_law 1093 = .ok (.iadd, 1) := by decide +kernel
theorem dL_law_1094 : decode cL_law 1094 = .ok (.iaload, 1) := by decide +kernel
theorem dL_law_1095 : decode cL_law 1095 = .ok (.aload_n 0, 1) := by decide +kernel
theorem dL_law_1096 : decode cL_law 1096 = .ok (.iload 4, 2) := by decide +kernel
theorem dL_law_1098 : decode cL_law 1098 = .ok (.iconst 3, 1) := by decide +kernel
theorem dL_law_1099 : decode cL_law 1099 = .ok (.iadd, 1) := by decide +kernel
theorem dL_law_1100 : decode cL_law 1100 = .ok (.iaload, 1) := by decide +kernel
theorem dL_law_1101 : decode cL_law 1101 = .ok (.ifCond .eq 7, 3) := by decide +kernel
theorem dL_law_1104 : decode cL_law 1104 = .ok (.iconst 1, 1) := by decide +kernel
theorem dL_law_1105 : decode cL_law 1105 = .ok (.goto 4, 3) := by decide +kernel
theorem dL_law_1108 : decode cL_law 1108 = .ok (.iconst 0, 1) := by decide +kernel
theorem dL_law_1109 : decode cL_law 1109 = .ok (.invokevirtual 144, 3) := by decide +kernel
theorem dL_law_1112 : decode cL_law 1112 = .ok (.if_icmp .eq 170, 3) := by decide +kernel
theorem dL_law_1115 : decode cL_law 1115 = .ok (.iconst 0, 1) := by decide +kernel
theorem dL_law_1116 : decode cL_law 1116 = .ok (.ireturn, 1) := by decide +kernel
theorem dL_law_1117 : decode cL_law 1117 = .ok (.aload_n 1, 1) := by decide +kernel
theorem dL_law_1118 : decode cL_law 1118 = .ok (.invokevirtual 145, 3) := by decide +kernel
theorem dL_law_1121 : decode cL_law 1121 = .ok (.aload_n 2, 1) := by decide +kernel
theorem dL_law_1122 : decode cL_law 1122 = .ok (.invokevirtual 148, 3) := by decide +kernel
theorem dL_law_1125 : decode cL_law 1125 = .ok (.if_icmp .eq 157, 3) := by decide +kernel
theorem dL_law_1128 : decode cL_law 1128 = .ok (.iconst 0, 1) := by decide +kernel
theorem dL_law_1129 : decode cL_law 1129 = .ok (.ireturn, 1) := by decide +kernel
theorem dL_law_1130 : decode cL_law 1130 = .ok (.aload_n 1, 1) := by decide +kernel
theorem dL_law_1131 : decode cL_law 1131 = .ok (.aload_n 0, 1) := by decide +kernel
theorem dL_law_1132 : decode cL_law 1132 = .ok (.iload 4, 2) := by decide +kernel
theorem dL_law_1134 : decode cL_law 1134 = .ok (.iconst 1, 1) := by decide +kernel
theorem dL_law_1135 : decode cL_law 1135 = .ok (.iadd, 1) := by decide +kernel
theorem dL_law_1136 : decode cL_law 1136 = .ok (.iaload, 1) := by decide +kernel
theorem dL_law_1137 : decode cL_law 1137 = .ok (.invokevirtual 149, 3) := by decide +kernel
theorem dL_law_1140 : decode cL_law 1140 = .ok (.aload_n 2, 1) := by decide +kernel
theorem dL_law_1141 : decode cL_law 1141 = .ok (.aload_n 0, 1) := by decide +kernel
theorem dL_law_1142 : decode cL_law 1142 = .ok (.iload 4, 2) := by decide +kernel
theorem dL_law_1144 : decode cL_law 1144 = .ok (.iconst 1, 1) := by decide +kernel
theorem dL_law_1145 : decode cL_law 1145 = .ok (.iadd, 1) := by decide +kernel
theorem dL_law_1146 : decode cL_law 1146 = .ok (.iaload, 1) := by decide +kernel
theorem dL_law_1147 : decode cL_law 1147 = .ok (.invokevirtual 152, 3) := by decide +kernel
theorem dL_law_1150 : decode cL_law 1150 = .ok (.if_icmp .eq 132, 3) := by decide +kernel
theorem dL_law_1153 : decode cL_law 1153 = .ok (.iconst 0, 1) := by decide +kernel
theorem dL_law_1154 : decode cL_law 1154 = .ok (.ireturn, 1) := by decide +kernel
theorem dL_law_1155 : decode cL_law 1155 = .ok (.aload_n 1, 1) := by decide +kernel
theorem dL_law_1156 : decode cL_law 1156 = .ok (.aload_n 0, 1) := by decide +kernel
theorem dL_law_1157 : decode cL_law 1157 = .ok (.iload 4, 2) := by decide +kernel
theorem dL_law_1159 : decode cL_law 1159 = .ok (.iconst 1, 1) := by decide +kernel
theorem dL_law_1160 : decode cL_law 1160 = .ok (.iadd, 1) := by decide +kernel
theorem dL_law_1161 : decode cL_law 1161 = .ok (.iaload, 1) := by decide +kernel
theorem dL_law_1162 : decode cL_law 1162 = .ok (.aload_n 0, 1) := by decide +kernel
theorem dL_law_1163 : decode cL_law 1163 = .ok (.iload 4, 2) := by decide +kernel
theorem dL_law_1165 : decode cL_law 1165 = .ok (.iconst 2, 1) := by decide +kernel
theorem dL_law_1166 : decode cL_law 1166 = .ok (.iadd, 1) := by decide +kernel
theorem dL_law_1167 : decode cL_law 1167 = .ok (.iaload, 1) := by decide +kernel
theorem dL_law_1168 : decode cL_law 1168 = .ok (.aload_n 0, 1) := by decide +kernel
theorem dL_law_1169 : decode cL_law 1169 = .ok (.iload 4, 2) := by decide +kernel
theorem dL_law_1171 : decode cL_law 1171 = .ok (.iconst 3, 1) := by decide +kernel
theorem dL_law_1172 : decode cL_law 1172 = .ok (.iadd, 1) := by decide +kernel
theorem dL_law_1173 : decode cL_law 1173 = .ok (.iaload, 1) := by decide +kernel
theorem dL_law_1174 : decode cL_law 1174 = .ok (.invokevirtual 153, 3) := by decide +kernel
theorem dL_law_1177 : decode cL_law 1177 = .ok (.aload_n 2, 1) := by decide +kernel
theorem dL_law_1178 : decode cL_law 1178 = .ok (.aload_n 0, 1) := by decide +kernel
theorem dL_law_1179 : decode cL_law 1179 = .ok (.iload 4, 2) := by decide +kernel
theorem dL_law_1181 : decode cL_law 1181 = .ok (.iconst 1, 1) := by decide +kernel
theorem dL_law_1182 : decode cL_law 1182 = .ok (.iadd, 1) := by decide +kernel
theorem dL_law_1183 : decode cL_law 1183 = .ok (.iaload, 1) := by decide +kernel
theorem dL_law_1184 : decode cL_law 1184 = .ok (.aload_n 0, 1) := by decide +kernel
theorem dL_law_1185 : decode cL_law 1185 = .ok (.iload 4, 2) := by decide +kernel
theorem dL_law_1187 : decode cL_law 1187 = .ok (.iconst 2, 1) := by decide +kernel
theorem dL_law_1188 : decode cL_law 1188 = .ok (.iadd, 1) := by decide +kernel
theorem dL_law_1189 : decode cL_law 1189 = .ok (.iaload, 1) := by decide +kernel
theorem dL_law_1190 : decode cL_law 1190 = .ok (.aload_n 0, 1) := by decide +kernel
theorem dL_law_1191 : decode cL_law 1191 = .ok (.iload 4, 2) := by decide +kernel
theorem dL_law_1193 : decode cL_law 1193 = .ok (.iconst 3, 1) := by decide +kernel
theorem dL_law_1194 : decode cL_law 1194 = .ok (.iadd, 1) := by decide +kernel
theorem dL_law_1195 : decode cL_law 1195 = .ok (.iaload, 1) := by decide +kernel
theorem dL_law_1196 : decode cL_law 1196 = .ok (.invokevirtual 156, 3) := by decide +kernel
theorem dL_law_1199 : decode cL_law 1199 = .ok (.if_icmp .eq 83, 3) := by decide +kernel
theorem dL_law_1202 : decode cL_law 1202 = .ok (.iconst 0, 1) := by decide +kernel
theorem dL_law_1203 : decode cL_law 1203 = .ok (.ireturn, 1) := by decide +kernel
theorem dL_law_1204 : decode cL_law 1204 = .ok (.aload_n 1, 1) := by decide +kernel
theorem dL_law_1205 : decode cL_law 1205 = .ok (.aload_n 0, 1) := by decide +kernel
theorem dL_law_1206 : decode cL_law 1206 = .ok (.iload 4, 2) := by decide +kernel
theorem dL_law_1208 : decode cL_law 1208 = .ok (.iconst 1, 1) := by decide +kernel
theorem dL_law_1209 : decode cL_law 1209 = .ok (.iadd, 1) := by decide +kernel
theorem dL_law_1210 : decode cL_law 1210 = .ok (.iaload, 1) := by decide +kernel
theorem dL_law_1211 : decode cL_law 1211 = .ok (.aload_n 0, 1) := by decide +kernel
theorem dL_law_1212 : decode cL_law 1212 = .ok (.iload 4, 2) := by decide +kernel
theorem dL_law_1214 : decode cL_law 1214 = .ok (.iconst 2, 1) := by decide +kernel
theorem dL_law_1215 : decode cL_law 1215 = .ok (.iadd, 1) := by decide +kernel
theorem dL_law_1216 : decode cL_law 1216 = .ok (.iaload, 1) := by decide +kernel
theorem dL_law_1217 : decode cL_law 1217 = .ok (.ifCond .eq 7, 3) := by decide +kernel
theorem dL_law_1220 : decode cL_law 1220 = .ok (.iconst 1, 1) := by decide +kernel
theorem dL_law_1221 : decode cL_law 1221 = .ok (.goto 4, 3) := by decide +kernel
theorem dL_law_1224 : decode cL_law 1224 = .ok (.iconst 0, 1) := by decide +kernel
theorem dL_law_1225 : decode cL_law 1225 = .ok (.invokevirtual 157, 3) := by decide +kernel
theorem dL_law_1228 : decode cL_law 1228 = .ok (.aload_n 2, 1) := by decide +kernel
theorem dL_law_1229 : decode cL_law 1229 = .ok (.aload_n 0, 1) := by decide +kernel
theorem dL_law_1230 : decode cL_law 1230 = .ok (.iload 4, 2) := by decide +kernel
theorem dL_law_1232 : decode cL_law 1232 = .ok (.iconst 1, 1) := by decide +kernel
theorem dL_law_1233 : decode cL_law 1233 = .ok (.iadd, 1) := by decide +kernel
theorem dL_law_1234 : decode cL_law 1234 = .ok (.iaload, 1) := by decide +kernel
theorem dL_law_1235 : decode cL_law 1235 = .ok (.aload_n 0, 1) := by decide +kernel
theorem dL_law_1236 : decode cL_law 1236 = .ok (.iload 4, 2) := by decide +kernel
theorem dL_law_1238 : decode cL_law 1238 = .ok (.iconst 2, 1) := by decide +kernel
theorem dL_law_1239 : decode cL_law 1239 = .ok (.iadd, 1) := by decide +kernel
theorem dL_law_1240 : decode cL_law 1240 = .ok (.iaload, 1) := by decide +kernel
theorem dL_law_1241 : decode cL_law 1241 = .ok (.ifCond .eq 7, 3) := by decide +kernel
theorem dL_law_1244 : decode cL_law 1244 = .ok (.iconst 1, 1) := by decide +kernel
theorem dL_law_1245 : decode cL_law 1245 = .ok (.goto 4, 3) := by decide +kernel
theorem dL_law_1248 : decode cL_law 1248 = .ok (.iconst 0, 1) := by decide +kernel
theorem dL_law_1249 : decode cL_law 1249 = .ok (.invokevirtual 161, 3) := by decide +kernel
theorem dL_law_1252 : decode cL_law 1252 = .ok (.if_icmp .eq 30, 3) := by decide +kernel
theorem dL_law_1255 : decode cL_law 1255 = .ok (.iconst 0, 1) := by decide +kernel
theorem dL_law_1256 : decode cL_law 1256 = .ok (.ireturn, 1) := by decide +kernel
theorem dL_law_1257 : decode cL_law 1257 = .ok (.aload_n 1, 1) := by decide +kernel
theorem dL_law_1258 : decode cL_law 1258 = .ok (.aload_n 0, 1) := by decide +kernel
theorem dL_law_1259 : decode cL_law 1259 = .ok (.iload 4, 2) := by decide +kernel
theorem dL_law_1261 : decode cL_law 1261 = .ok (.iconst 1, 1) := by decide +kernel
theorem dL_law_1262 : decode cL_law 1262 = .ok (.iadd, 1) := by decide +kernel
theorem dL_law_1263 : decode cL_law 1263 = .ok (.iaload, 1) := by decide +kernel
theorem dL_law_1264 : decode cL_law 1264 = .ok (.invokevirtual 162, 3) := by decide +kernel
theorem dL_law_1267 : decode cL_law 1267 = .ok (.aload_n 2, 1) := by decide +kernel
theorem dL_law_1268 : decode cL_law 1268 = .ok (.aload_n 0, 1) := by decide +kernel
theorem dL_law_1269 : decode cL_law 1269 = .ok (.iload 4, 2) := by decide +kernel
theorem dL_law_1271 : decode cL_law 1271 = .ok (.iconst 1, 1) := by decide +kernel
theorem dL_law_1272 : decode cL_law 1272 = .ok (.iadd, 1) := by decide +kernel
theorem dL_law_1273 : decode cL_law 1273 = .ok (.iaload, 1) := by decide +kernel
theorem dL_law_1274 : decode cL_law 1274 = .ok (.invokevirtual 165, 3) := by decide +kernel
theorem dL_law_1277 : decode cL_law 1277 = .ok (.if_icmp .eq 5, 3) := by decide +kernel
theorem dL_law_1280 : decode cL_law 1280 = .ok (.iconst 0, 1) := by decide +kernel
theorem dL_law_1281 : decode cL_law 1281 = .ok (.ireturn, 1) := by decide +kernel
theorem dL_law_1282 : decode cL_law 1282 = .ok (.iinc 4 7, 3) := by decide +kernel
theorem dL_law_1285 : decode cL_law 1285 = .ok (.goto (-1262), 3) := by decide +kernel
theorem dL_law_1288 : decode cL_law 1288 = .ok (.iconst 1, 1) := by decide +kernel
theorem dL_law_1289 : decode cL_law 1289 = .ok (.ireturn, 1) := by decide +kernel
/-! the law's own walk: the script is the constant 25 -/
def j_ΦL (v : Option Value) (_ : m_M) : Prop := v = some (.int 1)
theorem j_ΦL_no {M : m_M} (h : m_ok e_I j_ΦL (some ((0 : Int32), M))) : False := by
  have h1 : (some (Value.int 0) : Option Value) = some (.int 1) := h
  simp at h1
/-- the script stands below everything, as long as L, its ints xs -/
def j_Sc (X : j_X) (L : Nat) (xs : Nat → Int32) : Prop := match X with
  | (_, _, _, _, s, _, _, _, _, _, _, _, _, base, ad) => ad 25 < base ∧ ad 25 < s.heap.size ∧ va_X (ad 25) L xs s s.heap
/-- 1 on the stack at a return is the law's good end -/
def j_R1 (X : j_X) : Prop := ∀ (pc : Nat) (lv : List (Option Value)) (g : Nat × Nat) (M : m_M), decode cL_law pc = .ok (.ireturn, 1) → (g.1 ≤ 601024 ∧ g.2 ≤ 7293034) → j_J X 7 pc lv [.int 1] g M
def x_scr {β : Type} (L : Nat) (xs : Nat → Int32) (i : Int32) (f : Int32 → Option β) : Option β := if 0 ≤ i ∧ i.toNatClampNeg < L then f (xs i.toNatClampNeg) else none
section J_LAW
variable {X : j_X} {y : MethodName} {cc : ByteArray} {nL : Nat} {d mc ms : Nat} {Φ : Option Value → m_M → Prop} {pc : Nat} {lv : List (Option Value)} {st : List Value} {g : Nat × Nat} {M : m_M} {α : Type} {e : α → Option Value} {L : Nat} {xs : Nat → Int32}
theorem X_sld (C : j_C0 X y cc nL d mc ms) (HS : j_Sc X L xs) {f : Int32 → Option (α × m_M)} {i : Int32} (hd : decode cc pc = .ok (.iaload, 1)) (h : m_ok e Φ (x_scr L xs i f)) (k : ∀ v, m_ok e Φ (f v) → j_J X nL (pc + 1) lv (.int v :: st) g M) : j_J X nL pc lv (.int i :: .ref (1000000 + 25) :: st) g M := by
  obtain ⟨hk, h⟩ := X_gd h
  obtain ⟨p, l, e, R, s, m, args, below, meth, c, Q, D, cy, base, ad⟩ := X
  obtain ⟨hx, hb, hml, hown, hts, hK, hbs, hCs, hR0, hname⟩ := C
  obtain ⟨s1, s2, s3⟩ := HS
  intro H locs ls hR hS hl
  have kk := k _ h H locs ls hR hS hl
  simp only [List.map_cons, m_v, m_adc] at kk ⊢
  exact va_sld hx hb s3 s2 (by omega) hS (fun q => q.elim (fun q => absurd hk.1 (Int32.not_le.mpr q)) (fun q => by have := hk.2; omega)) hd kk
theorem j_slen (C : j_C0 X y cc nL d mc ms) (HS : j_Sc X L xs) (hd : decode cc pc = .ok (.arraylength, 1)) (k : j_J X nL (pc + 1) lv (.int (nI L) :: st) g M) : j_J X nL pc lv (.ref (1000000 + 25) :: st) g M := by
  obtain ⟨p, l, e, R, s, m, args, below, meth, c, Q, D, cy, base, ad⟩ := X
  obtain ⟨hx, hb, hml, hown, hts, hK, hbs, hCs, hR0, hname⟩ := C
  obtain ⟨s1, s2, s3⟩ := HS
  intro H locs ls hR hS hl
  have kk := k H locs ls hR hS hl
  simp only [List.map_cons, m_v, m_adc] at kk ⊢
  exact va_slen hx hb s3 s2 (by omega) hS hd kk
end J_LAW

noncomputable def F_L_law_loop (L : Nat) (xs : Nat → Int32) : Nat → Nat → Nat → Nat → Int32 → m_M → Option (Int32 × m_M)
  | 0, _, _, _, _, _ => none
  | n + 1, v1, v2, v3, v4, M =>
    if ((nI L) - (7 : Int32)) < v4 then (
      some ((1 : Int32), M)
    ) else
    m_let (fun (v5 : Nat) (v6 : Nat) (v7 : Nat) (v8 : Int32) (M1 : m_M) =>
      m_let (v8 + (7 : Int32)) fun v9 =>
      F_L_law_loop L xs n v5 v6 v7 v9 M1
    ) fun (k1282 : Nat → Nat → Nat → Int32 → m_M → Option (Int32 × m_M)) =>
    x_scr L xs v4 fun v10 =>
    m_let (v10 &&& (63 : Int32)) fun v11 =>
    if v11 = (0 : Int32) then (
      x_scr L xs (v4 + (1 : Int32)) fun v12 =>
      x_scr L xs (v4 + (2 : Int32)) fun v13 =>
      x_scr L xs (v4 + (3 : Int32)) fun v14 =>
      x_scr L xs (v4 + (4 : Int32)) fun v15 =>
      x_scr L xs (v4 + (5 : Int32)) fun v16 =>
      x_scr L xs (v4 + (6 : Int32)) fun v17 =>
      x_cV 9 M v1 (F_X11_feed v1 ((v12.toInt64 <<< ((32 : Int32).toInt64 &&& 63)) ||| (v13.toInt64 &&& (4294967295 : Int64))) ((v14.toInt64 <<< ((32 : Int32).toInt64 &&& 63)) ||| (v15.toInt64 &&& (4294967295 : Int64))) ((v16.toInt64 <<< ((32 : Int32).toInt64 &&& 63)) ||| (v17.toInt64 &&& (4294967295 : Int64))) M) fun v18 M2 =>
      x_scr L xs (v4 + (1 : Int32)) fun v19 =>
      x_scr L xs (v4 + (2 : Int32)) fun v20 =>
      x_scr L xs (v4 + (3 : Int32)) fun v21 =>
      x_scr L xs (v4 + (4 : Int32)) fun v22 =>
      x_scr L xs (v4 + (5 : Int32)) fun v23 =>
      x_scr L xs (v4 + (6 : Int32)) fun v24 =>
      x_cV 10 M2 v2 (F_X12_feed v2 ((v19.toInt64 <<< ((32 : Int32).toInt64 &&& 63)) ||| (v20.toInt64 &&& (4294967295 : Int64))) ((v21.toInt64 <<< ((32 : Int32).toInt64 &&& 63)) ||| (v22.toInt64 &&& (4294967295 : Int64))) ((v23.toInt64 <<< ((32 : Int32).toInt64 &&& 63)) ||| (v24.toInt64 &&& (4294967295 : Int64))) M2) fun v25 M3 =>
      if v18 = v25 then (
        k1282 v1 v2 v3 v4 M3
      ) else
      some ((0 : Int32), M3)
    ) else
    if v11 = (1 : Int32) then (
      x_cV 9 M v1 (F_X11_land v1 M) fun v26 M4 =>
      x_cV 10 M4 v2 (F_X12_land v2 M4) fun v27 M5 =>
      if v26 = v27 then (
        k1282 v1 v2 v3 v4 M5
      ) else
      some ((0 : Int32), M5)
    ) else
    if v11 = (2 : Int32) then (
      x_cV 9 M v1 (F_X11_say v1 M) fun v28 M6 =>
      x_cV 10 M6 v2 (F_X12_say v2 M6) fun v29 M7 =>
      if v28 = v29 then (
        k1282 v1 v2 v3 v4 M7
      ) else
      some ((0 : Int32), M7)
    ) else
    if v11 = (3 : Int32) then (
      x_scr L xs (v4 + (1 : Int32)) fun v30 =>
      x_cV 9 M v1 (F_X11_order v1 v30 M) fun v31 M8 =>
      x_scr L xs (v4 + (1 : Int32)) fun v32 =>
      x_cV 10 M8 v2 (F_X12_order v2 v32 M8) fun v33 M9 =>
      if v31 = v33 then (
        k1282 v1 v2 v3 v4 M9
      ) else
      some ((0 : Int32), M9)
    ) else
    if v11 = (4 : Int32) then (
      x_cV 9 M v1 (F_X11_ask v1 M) fun v34 M10 =>
      x_cV 10 M10 v2 (F_X12_ask v2 M10) fun v35 M11 =>
      if v34 = v35 then (
        k1282 v1 v2 v3 v4 M11
      ) else
      some ((0 : Int32), M11)
    ) else
    if v11 = (5 : Int32) then (
      x_scr L xs (v4 + (1 : Int32)) fun v36 =>
      x_cV 9 M v1 (F_X11_unsay v1 v36 M) fun v37 M12 =>
      x_scr L xs (v4 + (1 : Int32)) fun v38 =>
      x_cV 10 M12 v2 (F_X12_unsay v2 v38 M12) fun v39 M13 =>
      if v37 = v39 then (
        k1282 v1 v2 v3 v4 M13
      ) else
      some ((0 : Int32), M13)
    ) else
    if v11 = (6 : Int32) then (
      x_cV 9 M v1 (F_X11_undo v1 M) fun v40 M14 =>
      x_cV 10 M14 v2 (F_X12_undo v2 M14) fun v41 M15 =>
      if v40 = v41 then (
        k1282 v1 v2 v3 v4 M15
      ) else
      some ((0 : Int32), M15)
    ) else
    if v11 = (7 : Int32) then (
      x_scr L xs (v4 + (1 : Int32)) fun v42 =>
      x_cV 9 M v1 (F_X11_dawn v1 v42 M) fun v43 M16 =>
      x_scr L xs (v4 + (1 : Int32)) fun v44 =>
      x_cV 10 M16 v2 (F_X12_dawn v2 v44 M16) fun v45 M17 =>
      if v43 = v45 then (
        k1282 v1 v2 v3 v4 M17
      ) else
      some ((0 : Int32), M17)
    ) else
    if v11 = (8 : Int32) then (
      x_scr L xs (v4 + (1 : Int32)) fun v46 =>
      x_cV 9 M v1 (F_X11_thing v1 v46 M) fun v47 M18 =>
      x_scr L xs (v4 + (1 : Int32)) fun v48 =>
      x_cV 10 M18 v2 (F_X12_thing v2 v48 M18) fun v49 M19 =>
      if v47 = v49 then (
        k1282 v1 v2 v3 v4 M19
      ) else
      some ((0 : Int32), M19)
    ) else
    if v11 = (9 : Int32) then (
      x_scr L xs (v4 + (1 : Int32)) fun v50 =>
      x_cV 9 M v1 (F_X11_verb v1 v50 M) fun v51 M20 =>
      x_scr L xs (v4 + (1 : Int32)) fun v52 =>
      x_cV 10 M20 v2 (F_X12_verb v2 v52 M20) fun v53 M21 =>
      if v51 = v53 then (
        k1282 v1 v2 v3 v4 M21
      ) else
      some ((0 : Int32), M21)
    ) else
    if v11 = (10 : Int32) then (
      x_scr L xs (v4 + (1 : Int32)) fun v54 =>
      x_scr L xs (v4 + (2 : Int32)) fun v55 =>
      x_cV 9 M v1 (F_X11_saying v1 v54 v55 M) fun v56 M22 =>
      x_scr L xs (v4 + (1 : Int32)) fun v57 =>
      x_scr L xs (v4 + (2 : Int32)) fun v58 =>
      x_cV 10 M22 v2 (F_X12_saying v2 v57 v58 M22) fun v59 M23 =>
      if v56 = v59 then (
        k1282 v1 v2 v3 v4 M23
      ) else
      some ((0 : Int32), M23)
    ) else
    if v11 = (11 : Int32) then (
      x_scr L xs (v4 + (1 : Int32)) fun v60 =>
      x_scr L xs (v4 + (2 : Int32)) fun v61 =>
      x_cV 9 M v1 (F_X11_ordered v1 v60 v61 M) fun v62 M24 =>
      x_scr L xs (v4 + (1 : Int32)) fun v63 =>
      x_scr L xs (v4 + (2 : Int32)) fun v64 =>
      x_cV 10 M24 v2 (F_X12_ordered v2 v63 v64 M24) fun v65 M25 =>
      if v62 = v65 then (
        k1282 v1 v2 v3 v4 M25
      ) else
      some ((0 : Int32), M25)
    ) else
    if v11 = (12 : Int32) then (
      x_scr L xs (v4 + (1 : Int32)) fun v66 =>
      x_cV 9 M v1 (F_X11_worlds v1 v66 M) fun v67 M26 =>
      x_scr L xs (v4 + (1 : Int32)) fun v68 =>
      x_cV 10 M26 v2 (F_X12_worlds v2 v68 M26) fun v69 M27 =>
      if v67 = v69 then (
        k1282 v1 v2 v3 v4 M27
      ) else
      some ((0 : Int32), M27)
    ) else
    if v11 = (13 : Int32) then (
      x_scr L xs (v4 + (1 : Int32)) fun v70 =>
      x_cV 9 M v1 (F_X11_left v1 v70 M) fun v71 M28 =>
      x_scr L xs (v4 + (1 : Int32)) fun v72 =>
      x_cV 10 M28 v2 (F_X12_left v2 v72 M28) fun v73 M29 =>
      if v71 = v73 then (
        k1282 v1 v2 v3 v4 M29
      ) else
      some ((0 : Int32), M29)
    ) else
    if v11 = (14 : Int32) then (
      x_scr L xs (v4 + (1 : Int32)) fun v74 =>
      x_scr L xs (v4 + (2 : Int32)) fun v75 =>
      x_scr L xs (v4 + (3 : Int32)) fun v76 =>
      x_cV 9 M v1 (F_X11_holds v1 v74 v75 v76 M) fun v77 M30 =>
      x_scr L xs (v4 + (1 : Int32)) fun v78 =>
      x_scr L xs (v4 + (2 : Int32)) fun v79 =>
      x_scr L xs (v4 + (3 : Int32)) fun v80 =>
      x_cV 10 M30 v2 (F_X12_holds v2 v78 v79 v80 M30) fun v81 M31 =>
      if v77 = v81 then (
        k1282 v1 v2 v3 v4 M31
      ) else
      some ((0 : Int32), M31)
    ) else
    if v11 = (15 : Int32) then (
      x_scr L xs (v4 + (1 : Int32)) fun v82 =>
      x_cV 9 M v1 (F_X11_meant v1 v82 M) fun v83 M32 =>
      x_scr L xs (v4 + (1 : Int32)) fun v84 =>
      x_cV 10 M32 v2 (F_X12_meant v2 v84 M32) fun v85 M33 =>
      if v83 = v85 then (
        k1282 v1 v2 v3 v4 M33
      ) else
      some ((0 : Int32), M33)
    ) else
    if v11 = (16 : Int32) then (
      x_scr L xs (v4 + (1 : Int32)) fun v86 =>
      x_scr L xs (v4 + (2 : Int32)) fun v87 =>
      x_cV 9 M v1 (F_X11_same v1 v86 v87 M) fun v88 M34 =>
      x_scr L xs (v4 + (1 : Int32)) fun v89 =>
      x_scr L xs (v4 + (2 : Int32)) fun v90 =>
      x_cV 10 M34 v2 (F_X12_same v2 v89 v90 M34) fun v91 M35 =>
      if v88 = v91 then (
        k1282 v1 v2 v3 v4 M35
      ) else
      some ((0 : Int32), M35)
    ) else
    if v11 = (17 : Int32) then (
      x_cV 9 M v1 (F_X11_asked v1 M) fun v92 M36 =>
      x_cV 10 M36 v2 (F_X12_asked v2 M36) fun v93 M37 =>
      if v92 = v93 then (
        k1282 v1 v2 v3 v4 M37
      ) else
      some ((0 : Int32), M37)
    ) else
    if v11 = (18 : Int32) then (
      x_scr L xs (v4 + (1 : Int32)) fun v94 =>
      x_scr L xs (v4 + (2 : Int32)) fun v95 =>
      x_cV 9 M v1 (F_X11_sure v1 v94 v95 M) fun v96 M38 =>
      x_scr L xs (v4 + (1 : Int32)) fun v97 =>
      x_scr L xs (v4 + (2 : Int32)) fun v98 =>
      x_cV 10 M38 v2 (F_X12_sure v2 v97 v98 M38) fun v99 M39 =>
      if v96 = v99 then (
        k1282 v1 v2 v3 v4 M39
      ) else
      some ((0 : Int32), M39)
    ) else
    if v11 = (19 : Int32) then (
      x_cV 9 M v1 (F_X11_clash v1 M) fun v100 M40 =>
      x_cV 10 M40 v2 (F_X12_clash v2 M40) fun v101 M41 =>
      if v100 = v101 then (
        k1282 v1 v2 v3 v4 M41
      ) else
      some ((0 : Int32), M41)
    ) else
    if v11 = (20 : Int32) then (
      x_scr L xs (v4 + (1 : Int32)) fun v102 =>
      x_scr L xs (v4 + (2 : Int32)) fun v103 =>
      x_cV 9 M v1 (F_X11_shortest v1 v102 v103 M) fun v104 M42 =>
      x_scr L xs (v4 + (1 : Int32)) fun v105 =>
      x_scr L xs (v4 + (2 : Int32)) fun v106 =>
      x_cV 10 M42 v2 (F_X12_shortest v2 v105 v106 M42) fun v107 M43 =>
      if v104 = v107 then (
        k1282 v1 v2 v3 v4 M43
      ) else
      some ((0 : Int32), M43)
    ) else
    if v11 = (21 : Int32) then (
      x_scr L xs (v4 + (1 : Int32)) fun v108 =>
      x_scr L xs (v4 + (2 : Int32)) fun v109 =>
      x_cV 9 M v1 (F_X11_two v1 v108 v109 M) fun v110 M44 =>
      x_scr L xs (v4 + (1 : Int32)) fun v111 =>
      x_scr L xs (v4 + (2 : Int32)) fun v112 =>
      x_cV 10 M44 v2 (F_X12_two v2 v111 v112 M44) fun v113 M45 =>
      if v110 = v113 then (
        k1282 v1 v2 v3 v4 M45
      ) else
      some ((0 : Int32), M45)
    ) else
    if v11 = (22 : Int32) then (
      x_scr L xs (v4 + (1 : Int32)) fun v114 =>
      x_cV 9 M v1 (F_X11_riddle v1 v114 M) fun v115 M46 =>
      x_scr L xs (v4 + (1 : Int32)) fun v116 =>
      x_cV 10 M46 v2 (F_X12_riddle v2 v116 M46) fun v117 M47 =>
      if v115 = v117 then (
        k1282 v1 v2 v3 v4 M47
      ) else
      some ((0 : Int32), M47)
    ) else
    if v11 = (23 : Int32) then (
      x_scr L xs (v4 + (1 : Int32)) fun v118 =>
      x_bd (F_L_rings v1 v118 v3 M) fun v119 M48 =>
      x_scr L xs (v4 + (1 : Int32)) fun v120 =>
      x_cV 10 M48 v2 (F_X12_rings v2 v120 M48) fun v121 M49 =>
      x_cV 10 M49 v2 (F_X12_thrown v2 M49) fun v122 M50 =>
      if v122 = v119 then (
        m_let (fun (v123 : Nat) (v124 : Nat) (v125 : Nat) (v126 : Int32) (M51 : m_M) =>
          k1282 v123 v124 v125 v126 M51
        ) fun (k962 : Nat → Nat → Nat → Int32 → m_M → Option (Int32 × m_M)) =>
        if v119 = 0 then (
          x_aL M50 v3 (0 : Int32) fun v127 =>
          if (lg_cmp v127 v121.toInt64) = 0 then (
            k962 v1 v2 v3 v4 M50
          ) else
          some ((0 : Int32), M50)
        ) else
        k962 v1 v2 v3 v4 M50
      ) else
      some ((0 : Int32), M50)
    ) else
    if v11 = (24 : Int32) then (
      x_scr L xs (v4 + (1 : Int32)) fun v128 =>
      x_cV 9 M v1 (F_X11_rests v1 v128 M) fun v129 M52 =>
      x_scr L xs (v4 + (1 : Int32)) fun v130 =>
      x_cV 10 M52 v2 (F_X12_rests v2 v130 M52) fun v131 M53 =>
      if v129 = v131 then (
        k1282 v1 v2 v3 v4 M53
      ) else
      some ((0 : Int32), M53)
    ) else
    if v11 = (25 : Int32) then (
      x_scr L xs (v4 + (1 : Int32)) fun v132 =>
      x_scr L xs (v4 + (2 : Int32)) fun v133 =>
      x_cV 9 M v1 (F_X11_sayable v1 v132 v133 M) fun v134 M54 =>
      x_scr L xs (v4 + (1 : Int32)) fun v135 =>
      x_scr L xs (v4 + (2 : Int32)) fun v136 =>
      x_cV 10 M54 v2 (F_X12_sayable v2 v135 v136 M54) fun v137 M55 =>
      if v134 = v137 then (
        k1282 v1 v2 v3 v4 M55
      ) else
      some ((0 : Int32), M55)
    ) else
    if v11 = (26 : Int32) then (
      x_scr L xs (v4 + (1 : Int32)) fun v138 =>
      x_cV 9 M v1 (F_X11_cover v1 v138 M) fun v139 M56 =>
      x_scr L xs (v4 + (1 : Int32)) fun v140 =>
      x_cV 10 M56 v2 (F_X12_cover v2 v140 M56) fun v141 M57 =>
      if v139 = v141 then (
        k1282 v1 v2 v3 v4 M57
      ) else
      some ((0 : Int32), M57)
    ) else
    if v11 = (27 : Int32) then (
      m_let (fun (v142 : Nat) (v143 : Nat) (v144 : Nat) (v145 : Int32) (v146 : Nat) (v147 : Int32) (v148 : Int32) (v149 : Int32) (M58 : m_M) =>
        m_let (fun (v150 : Nat) (v151 : Nat) (v152 : Nat) (v153 : Int32) (v154 : Int32) (v155 : Nat) (v156 : Int32) (v157 : Int32) (v158 : Int32) (M59 : m_M) =>
          x_cV 10 M59 v155 (F_X12_see v155 v156 v157 v158 M59) fun v159 M60 =>
          if v154 = v159 then (
            k1282 v150 v151 v152 v153 M60
          ) else
          some ((0 : Int32), M60)
        ) fun (k1109 : Nat → Nat → Nat → Int32 → Int32 → Nat → Int32 → Int32 → Int32 → m_M → Option (Int32 × m_M)) =>
        x_cV 9 M58 v146 (F_X11_see v146 v147 v148 v149 M58) fun v160 M61 =>
        x_scr L xs (v145 + (1 : Int32)) fun v161 =>
        x_scr L xs (v145 + (2 : Int32)) fun v162 =>
        x_scr L xs (v145 + (3 : Int32)) fun v163 =>
        if v163 = 0 then (
          k1109 v142 v143 v144 v145 v160 v143 v161 v162 (0 : Int32) M61
        ) else
        k1109 v142 v143 v144 v145 v160 v143 v161 v162 (1 : Int32) M61
      ) fun (k1079 : Nat → Nat → Nat → Int32 → Nat → Int32 → Int32 → Int32 → m_M → Option (Int32 × m_M)) =>
      x_scr L xs (v4 + (1 : Int32)) fun v164 =>
      x_scr L xs (v4 + (2 : Int32)) fun v165 =>
      x_scr L xs (v4 + (3 : Int32)) fun v166 =>
      if v166 = 0 then (
        k1079 v1 v2 v3 v4 v1 v164 v165 (0 : Int32) M
      ) else
      k1079 v1 v2 v3 v4 v1 v164 v165 (1 : Int32) M
    ) else
    if v11 = (28 : Int32) then (
      x_cV 9 M v1 (F_X11_knows v1 M) fun v167 M62 =>
      x_cV 10 M62 v2 (F_X12_knows v2 M62) fun v168 M63 =>
      if v167 = v168 then (
        k1282 v1 v2 v3 v4 M63
      ) else
      some ((0 : Int32), M63)
    ) else
    if v11 = (29 : Int32) then (
      x_scr L xs (v4 + (1 : Int32)) fun v169 =>
      x_cV 9 M v1 (F_X11_tells v1 v169 M) fun v170 M64 =>
      x_scr L xs (v4 + (1 : Int32)) fun v171 =>
      x_cV 10 M64 v2 (F_X12_tells v2 v171 M64) fun v172 M65 =>
      if v170 = v172 then (
        k1282 v1 v2 v3 v4 M65
      ) else
      some ((0 : Int32), M65)
    ) else
    if v11 = (30 : Int32) then (
      x_scr L xs (v4 + (1 : Int32)) fun v173 =>
      x_scr L xs (v4 + (2 : Int32)) fun v174 =>
      x_scr L xs (v4 + (3 : Int32)) fun v175 =>
      x_cV 9 M v1 (F_X11_year v1 v173 v174 v175 M) fun v176 M66 =>
      x_scr L xs (v4 + (1 : Int32)) fun v177 =>
      x_scr L xs (v4 + (2 : Int32)) fun v178 =>
      x_scr L xs (v4 + (3 : Int32)) fun v179 =>
      x_cV 10 M66 v2 (F_X12_year v2 v177 v178 v179 M66) fun v180 M67 =>
      if v176 = v180 then (
        k1282 v1 v2 v3 v4 M67
      ) else
      some ((0 : Int32), M67)
    ) else
    if v11 = (31 : Int32) then (
      m_let (fun (v181 : Nat) (v182 : Nat) (v183 : Nat) (v184 : Int32) (v185 : Nat) (v186 : Int32) (v187 : Int32) (M68 : m_M) =>
        m_let (fun (v188 : Nat) (v189 : Nat) (v190 : Nat) (v191 : Int32) (v192 : Int32) (v193 : Nat) (v194 : Int32) (v195 : Int32) (M69 : m_M) =>
          x_cV 10 M69 v193 (F_X12_mark v193 v194 v195 M69) fun v196 M70 =>
          if v192 = v196 then (
            k1282 v188 v189 v190 v191 M70
          ) else
          some ((0 : Int32), M70)
        ) fun (k1249 : Nat → Nat → Nat → Int32 → Int32 → Nat → Int32 → Int32 → m_M → Option (Int32 × m_M)) =>
        x_cV 9 M68 v185 (F_X11_mark v185 v186 v187 M68) fun v197 M71 =>
        x_scr L xs (v184 + (1 : Int32)) fun v198 =>
        x_scr L xs (v184 + (2 : Int32)) fun v199 =>
        if v199 = 0 then (
          k1249 v181 v182 v183 v184 v197 v182 v198 (0 : Int32) M71
        ) else
        k1249 v181 v182 v183 v184 v197 v182 v198 (1 : Int32) M71
      ) fun (k1225 : Nat → Nat → Nat → Int32 → Nat → Int32 → Int32 → m_M → Option (Int32 × m_M)) =>
      x_scr L xs (v4 + (1 : Int32)) fun v200 =>
      x_scr L xs (v4 + (2 : Int32)) fun v201 =>
      if v201 = 0 then (
        k1225 v1 v2 v3 v4 v1 v200 (0 : Int32) M
      ) else
      k1225 v1 v2 v3 v4 v1 v200 (1 : Int32) M
    ) else
    if v11 = (32 : Int32) then (
      x_scr L xs (v4 + (1 : Int32)) fun v202 =>
      x_cV 9 M v1 (F_X11_count v1 v202 M) fun v203 M72 =>
      x_scr L xs (v4 + (1 : Int32)) fun v204 =>
      x_cV 10 M72 v2 (F_X12_count v2 v204 M72) fun v205 M73 =>
      if v203 = v205 then (
        k1282 v1 v2 v3 v4 M73
      ) else
      some ((0 : Int32), M73)
    ) else
    k1282 v1 v2 v3 v4 M
noncomputable def F_L_law (L : Nat) (xs : Nat → Int32) (M : m_M) : Option (Int32 × m_M) :=
  x_new 9 M fun v1 M1 =>
  x_bd (F_X11_init v1 M1) fun _ M2 =>
  x_new 10 M2 fun v2 M3 =>
  x_bd (F_X12_init v2 M3) fun _ M4 =>
  x_newA 13 1 M4 (1 : Int32) fun v3 M5 =>
  F_L_law_loop L xs 513 v1 v2 v3 (0 : Int32) M5
set_option maxHeartbeats 40000000 in
theorem L_L_law_loop {X : j_X} {L : Nat} {xs : Nat → Int32} (C0 : j_C0 X yL_law cL_law 7 1312 601024 7293034) (HL : X.2.1.stackTraces = false) (HS : j_Sc X L xs) (HR : j_R1 X) : ∀ (n : Nat) (g : Nat × Nat), g.1 + n * 6 ≤ 600000 ∧ g.2 + n * 1100 ≤ 7000000 → ∀ (v1 : Nat) (v2 : Nat) (v3 : Nat) (v4 : Int32) (M : m_M), m_ok e_I j_ΦL (F_L_law_loop L xs n v1 v2 v3 v4 M) → j_J X 7 23 [some (.ref (1000000 + 25)), some (.ref v1), some (.ref v2), some (.ref v3), some (.int v4), none, none] [] g M := by
  intro n
  induction n with
  | zero => intro g hg v1 v2 v3 v4 M h; exact False.elim h
  | succ n ih =>
    intro g hg v1 v2 v3 v4 M h
    rw [F_L_law_loop] at h
    have hg1 : g.1 + 6 ≤ 600000 := by have := hg.1; omega
    have hg2 : g.2 + 1100 ≤ 7000000 := by have := hg.2; omega
    show j_J X 7 23 [some (.ref (1000000 + 25)), some (.ref v1), some (.ref v2), some (.ref v3), some (.int v4), none, none] [] (g.1 + 0, g.2 + 0) M
    refine j_iload C0 (pc := 23) dL_law_23 rfl ?_
    refine j_aload_n C0 (pc := 25) dL_law_25 rfl ?_
    refine j_slen C0 HS (pc := 26) dL_law_26 ?_
    refine j_bipush C0 (pc := 27) dL_law_27 (v := (7 : Int32)) (by decide) ?_
    refine j_isub C0 (pc := 29) dL_law_29 ?_
    refine j_icmp_gt C0 (pc := 30) (tgt := 1288) dL_law_30 (by decide) (fun hc => ?_) (fun hc => ?_)
    · replace h := (X_if h).1 hc
      refine j_iconst C0 (pc := 1288) dL_law_1288 (v := (1 : Int32)) (by decide) ?_
      exact HR 1289 _ _ _ dL_law_1289 (by show _ ≤ _ ∧ _ ≤ _; omega)
    · replace h := (X_if h).2 hc
      refine X_join (fun (kj : Nat → Nat → Nat → Int32 → m_M → Option (Int32 × m_M)) => ∀ (p0 : Nat) (p1 : Nat) (p2 : Nat) (p3 : Int32) (M : m_M), m_ok e_I j_ΦL (kj p0 p1 p2 p3 M) → j_J X 7 1282 [some (.ref (1000000 + 25)), some (.ref p0), some (.ref p1), some (.ref p2), some (.int p3), none, none] [] (g.1 + 6, g.2 + 1100) M) h (fun v5 v6 v7 v8 M1 h => ?_) (fun k1282 hk1282 h => ?_)
      · refine j_iinc C0 (pc := 1282) dL_law_1282 (v := v8 + (7 : Int32)) rfl (Nat.le_of_ble_eq_true rfl) (by rfl) ?_
        refine X_let (G := fun w => j_J X 7 1285 [some (.ref (1000000 + 25)), some (.ref v5), some (.ref v6), some (.ref v7), some (.int w), none, none] [] (g.1 + 6, g.2 + 1100) M1) h (fun v9 h => ?_)
        refine j_goto C0 (pc := 1285) (tgt := 23) dL_law_1285 (by decide) ?_
        exact j_J.wide (g' := (g.1 + 6, g.2 + 1100)) ⟨by show _ ≤ _; omega, by show _ ≤ _; omega⟩ (j_J.wq ((ih (g.1 + 6, g.2 + 1100) (by show g.1 + 6 + n * 6 ≤ _ ∧ g.2 + 1100 + n * 1100 ≤ _; omega)) v5 v6 v7 v9 M1 h) (And.intro rfl (And.intro rfl (And.intro rfl (And.intro rfl (And.intro rfl (trivial)))))))
      refine j_aload_n C0 (pc := 33) dL_law_33 rfl ?_
      refine j_iload C0 (pc := 34) dL_law_34 rfl ?_
      refine X_sld C0 HS (pc := 36) dL_law_36 h (fun v10 h => ?_)
      refine j_bipush C0 (pc := 37) dL_law_37 (v := (63 : Int32)) (by decide) ?_
      refine j_iand C0 (pc := 39) dL_law_39 ?_
      refine X_let (G := fun w => j_J X 7 40 [some (.ref (1000000 + 25)), some (.ref v1), some (.ref v2), some (.ref v3), some (.int v4), none, none] (.int w :: []) (g.1 + 0, g.2 + 0) M) h (fun v11 h => ?_)
      by_cases hc : v11 = (0 : Int32)
      · replace h := (X_if h).1 hc
        refine j_tableIn C0 (pc := 40) (off := 148) (tgt := 188) dL_law_40 (by rw [hc]; decide) (by rw [hc]; decide) (by rw [hc]; decide) (by decide) ?_
        refine j_aload_n C0 (pc := 188) dL_law_188 rfl ?_
        refine j_aload_n C0 (pc := 189) dL_law_189 rfl ?_
        refine j_iload C0 (pc := 190) dL_law_190 rfl ?_
        refine j_iconst C0 (pc := 192) dL_law_192 (v := (1 : Int32)) (by decide) ?_
        refine j_iadd C0 (pc := 193) dL_law_193 ?_
        refine X_sld C0 HS (pc := 194) dL_law_194 h (fun v12 h => ?_)
        refine j_i2l C0 (pc := 195) dL_law_195 (v := v12.toInt64) rfl ?_
        refine j_bipush C0 (pc := 196) dL_law_196 (v := (32 : Int32)) (by decide) ?_
        refine j_lshl C0 (pc := 198) dL_law_198 (v := v12.toInt64 <<< ((32 : Int32).toInt64 &&& 63)) rfl ?_
        refine j_aload_n C0 (pc := 199) dL_law_199 rfl ?_
        refine j_iload C0 (pc := 200) dL_law_200 rfl ?_
        refine j_iconst C0 (pc := 202) dL_law_202 (v := (2 : Int32)) (by decide) ?_
        refine j_iadd C0 (pc := 203) dL_law_203 ?_
        refine X_sld C0 HS (pc := 204) dL_law_204 h (fun v13 h => ?_)
        refine j_i2l C0 (pc := 205) dL_law_205 (v := v13.toInt64) rfl ?_
        refine j_ldc2 C0 (pc := 206) (v := (4294967295 : Int64)) (j_c10 84 (by decide +kernel)) dL_law_206 ?_
        refine j_land C0 (pc := 209) dL_law_209 ?_
        refine j_lor C0 (pc := 210) dL_law_210 ?_
        refine j_aload_n C0 (pc := 211) dL_law_211 rfl ?_
        refine j_iload C0 (pc := 212) dL_law_212 rfl ?_
        refine j_iconst C0 (pc := 214) dL_law_214 (v := (3 : Int32)) (by decide) ?_
        refine j_iadd C0 (pc := 215) dL_law_215 ?_
        refine X_sld C0 HS (pc := 216) dL_law_216 h (fun v14 h => ?_)
        refine j_i2l C0 (pc := 217) dL_law_217 (v := v14.toInt64) rfl ?_
        refine j_bipush C0 (pc := 218) dL_law_218 (v := (32 : Int32)) (by decide) ?_
        refine j_lshl C0 (pc := 220) dL_law_220 (v := v14.toInt64 <<< ((32 : Int32).toInt64 &&& 63)) rfl ?_
        refine j_aload_n C0 (pc := 221) dL_law_221 rfl ?_
        refine j_iload C0 (pc := 222) dL_law_222 rfl ?_
        refine j_iconst C0 (pc := 224) dL_law_224 (v := (4 : Int32)) (by decide) ?_
        refine j_iadd C0 (pc := 225) dL_law_225 ?_
        refine X_sld C0 HS (pc := 226) dL_law_226 h (fun v15 h => ?_)
        refine j_i2l C0 (pc := 227) dL_law_227 (v := v15.toInt64) rfl ?_
        refine j_ldc2 C0 (pc := 228) (v := (4294967295 : Int64)) (j_c10 84 (by decide +kernel)) dL_law_228 ?_
        refine j_land C0 (pc := 231) dL_law_231 ?_
        refine j_lor C0 (pc := 232) dL_law_232 ?_
        refine j_aload_n C0 (pc := 233) dL_law_233 rfl ?_
        refine j_iload C0 (pc := 234) dL_law_234 rfl ?_
        refine j_iconst C0 (pc := 236) dL_law_236 (v := (5 : Int32)) (by decide) ?_
        refine j_iadd C0 (pc := 237) dL_law_237 ?_
        refine X_sld C0 HS (pc := 238) dL_law_238 h (fun v16 h => ?_)
        refine j_i2l C0 (pc := 239) dL_law_239 (v := v16.toInt64) rfl ?_
        refine j_bipush C0 (pc := 240) dL_law_240 (v := (32 : Int32)) (by decide) ?_
        refine j_lshl C0 (pc := 242) dL_law_242 (v := v16.toInt64 <<< ((32 : Int32).toInt64 &&& 63)) rfl ?_
        refine j_aload_n C0 (pc := 243) dL_law_243 rfl ?_
        refine j_iload C0 (pc := 244) dL_law_244 rfl ?_
        refine j_bipush C0 (pc := 246) dL_law_246 (v := (6 : Int32)) (by decide) ?_
        refine j_iadd C0 (pc := 248) dL_law_248 ?_
        refine X_sld C0 HS (pc := 249) dL_law_249 h (fun v17 h => ?_)
        refine j_i2l C0 (pc := 250) dL_law_250 (v := v17.toInt64) rfl ?_
        refine j_ldc2 C0 (pc := 251) (v := (4294967295 : Int64)) (j_c10 84 (by decide +kernel)) dL_law_251 ?_
        refine j_land C0 (pc := 254) dL_law_254 ?_
        refine j_lor C0 (pc := 255) dL_law_255 ?_
        refine X_cV C0 (pc := 256) (e' := e_I) (as := [.long ((v12.toInt64 <<< ((32 : Int32).toInt64 &&& 63)) ||| (v13.toInt64 &&& (4294967295 : Int64))), .long ((v14.toInt64 <<< ((32 : Int32).toInt64 &&& 63)) ||| (v15.toInt64 &&& (4294967295 : Int64))), .long ((v16.toInt64 <<< ((32 : Int32).toInt64 &&& 63)) ||| (v17.toInt64 &&& (4294967295 : Int64)))]) (rest := []) (s' := fun w => .int w :: []) (g' := (g.1 + 0, g.2 + 0)) v_Law_21_9 (fun Ψ hΨ => K_X11_feed v1 ((v12.toInt64 <<< ((32 : Int32).toInt64 &&& 63)) ||| (v13.toInt64 &&& (4294967295 : Int64))) ((v14.toInt64 <<< ((32 : Int32).toInt64 &&& 63)) ||| (v15.toInt64 &&& (4294967295 : Int64))) ((v16.toInt64 <<< ((32 : Int32).toInt64 &&& 63)) ||| (v17.toInt64 &&& (4294967295 : Int64))) M Ψ hΨ) rfl rfl (fun _ => rfl) (by decide) (by show _ ≤ _ ∧ _ ≤ _; omega) rfl (Nat.le_of_ble_eq_true rfl) dL_law_256 h (fun v18 M2 h => ?_)
        refine j_aload_n C0 (pc := 259) dL_law_259 rfl ?_
        refine j_aload_n C0 (pc := 260) dL_law_260 rfl ?_
        refine j_iload C0 (pc := 261) dL_law_261 rfl ?_
        refine j_iconst C0 (pc := 263) dL_law_263 (v := (1 : Int32)) (by decide) ?_
        refine j_iadd C0 (pc := 264) dL_law_264 ?_
        refine X_sld C0 HS (pc := 265) dL_law_265 h (fun v19 h => ?_)
        refine j_i2l C0 (pc := 266) dL_law_266 (v := v19.toInt64) rfl ?_
        refine j_bipush C0 (pc := 267) dL_law_267 (v := (32 : Int32)) (by decide) ?_
        refine j_lshl C0 (pc := 269) dL_law_269 (v := v19.toInt64 <<< ((32 : Int32).toInt64 &&& 63)) rfl ?_
        refine j_aload_n C0 (pc := 270) dL_law_270 rfl ?_
        refine j_iload C0 (pc := 271) dL_law_271 rfl ?_
        refine j_iconst C0 (pc := 273) dL_law_273 (v := (2 : Int32)) (by decide) ?_
        refine j_iadd C0 (pc := 274) dL_law_274 ?_
        refine X_sld C0 HS (pc := 275) dL_law_275 h (fun v20 h => ?_)
        refine j_i2l C0 (pc := 276) dL_law_276 (v := v20.toInt64) rfl ?_
        refine j_ldc2 C0 (pc := 277) (v := (4294967295 : Int64)) (j_c10 84 (by decide +kernel)) dL_law_277 ?_
        refine j_land C0 (pc := 280) dL_law_280 ?_
        refine j_lor C0 (pc := 281) dL_law_281 ?_
        refine j_aload_n C0 (pc := 282) dL_law_282 rfl ?_
        refine j_iload C0 (pc := 283) dL_law_283 rfl ?_
        refine j_iconst C0 (pc := 285) dL_law_285 (v := (3 : Int32)) (by decide) ?_
        refine j_iadd C0 (pc := 286) dL_law_286 ?_
        refine X_sld C0 HS (pc := 287) dL_law_287 h (fun v21 h => ?_)
        refine j_i2l C0 (pc := 288) dL_law_288 (v := v21.toInt64) rfl ?_
        refine j_bipush C0 (pc := 289) dL_law_289 (v := (32 : Int32)) (by decide) ?_
        refine j_lshl C0 (pc := 291) dL_law_291 (v := v21.toInt64 <<< ((32 : Int32).toInt64 &&& 63)) rfl ?_
        refine j_aload_n C0 (pc := 292) dL_law_292 rfl ?_
        refine j_iload C0 (pc := 293) dL_law_293 rfl ?_
        refine j_iconst C0 (pc := 295) dL_law_295 (v := (4 : Int32)) (by decide) ?_
        refine j_iadd C0 (pc := 296) dL_law_296 ?_
        refine X_sld C0 HS (pc := 297) dL_law_297 h (fun v22 h => ?_)
        refine j_i2l C0 (pc := 298) dL_law_298 (v := v22.toInt64) rfl ?_
        refine j_ldc2 C0 (pc := 299) (v := (4294967295 : Int64)) (j_c10 84 (by decide +kernel)) dL_law_299 ?_
        refine j_land C0 (pc := 302) dL_law_302 ?_
        refine j_lor C0 (pc := 303) dL_law_303 ?_
        refine j_aload_n C0 (pc := 304) dL_law_304 rfl ?_
        refine j_iload C0 (pc := 305) dL_law_305 rfl ?_
        refine j_iconst C0 (pc := 307) dL_law_307 (v := (5 : Int32)) (by decide) ?_
        refine j_iadd C0 (pc := 308) dL_law_308 ?_
        refine X_sld C0 HS (pc := 309) dL_law_309 h (fun v23 h => ?_)
        refine j_i2l C0 (pc := 310) dL_law_310 (v := v23.toInt64) rfl ?_
        refine j_bipush C0 (pc := 311) dL_law_311 (v := (32 : Int32)) (by decide) ?_
        refine j_lshl C0 (pc := 313) dL_law_313 (v := v23.toInt64 <<< ((32 : Int32).toInt64 &&& 63)) rfl ?_
        refine j_aload_n C0 (pc := 314) dL_law_314 rfl ?_
        refine j_iload C0 (pc := 315) dL_law_315 rfl ?_
        refine j_bipush C0 (pc := 317) dL_law_317 (v := (6 : Int32)) (by decide) ?_
        refine j_iadd C0 (pc := 319) dL_law_319 ?_
        refine X_sld C0 HS (pc := 320) dL_law_320 h (fun v24 h => ?_)
        refine j_i2l C0 (pc := 321) dL_law_321 (v := v24.toInt64) rfl ?_
        refine j_ldc2 C0 (pc := 322) (v := (4294967295 : Int64)) (j_c10 84 (by decide +kernel)) dL_law_322 ?_
        refine j_land C0 (pc := 325) dL_law_325 ?_
        refine j_lor C0 (pc := 326) dL_law_326 ?_
        refine X_cV C0 (pc := 327) (e' := e_I) (as := [.long ((v19.toInt64 <<< ((32 : Int32).toInt64 &&& 63)) ||| (v20.toInt64 &&& (4294967295 : Int64))), .long ((v21.toInt64 <<< ((32 : Int32).toInt64 &&& 63)) ||| (v22.toInt64 &&& (4294967295 : Int64))), .long ((v23.toInt64 <<< ((32 : Int32).toInt64 &&& 63)) ||| (v24.toInt64 &&& (4294967295 : Int64)))]) (rest := [.int v18]) (s' := fun w => .int w :: [.int v18]) (g' := (g.1 + 0, g.2 + 0)) v_Law_25_10 (fun Ψ hΨ => K_X12_feed v2 ((v19.toInt64 <<< ((32 : Int32).toInt64 &&& 63)) ||| (v20.toInt64 &&& (4294967295 : Int64))) ((v21.toInt64 <<< ((32 : Int32).toInt64 &&& 63)) ||| (v22.toInt64 &&& (4294967295 : Int64))) ((v23.toInt64 <<< ((32 : Int32).toInt64 &&& 63)) ||| (v24.toInt64 &&& (4294967295 : Int64))) M2 Ψ hΨ) rfl rfl (fun _ => rfl) (by decide) (by show _ ≤ _ ∧ _ ≤ _; omega) rfl (Nat.le_of_ble_eq_true rfl) dL_law_327 h (fun v25 M3 h => ?_)
        refine j_icmp_eq C0 (pc := 330) (tgt := 1282) dL_law_330 (by decide) (fun hc => ?_) (fun hc => ?_)
        · replace h := (X_if h).1 hc
          exact j_J.wide (g' := (g.1 + 6, g.2 + 1100)) ⟨by show _ ≤ _; omega, by show _ ≤ _; omega⟩ (j_J.wq (hk1282 v1 v2 v3 v4 M3 h) (And.intro rfl (And.intro rfl (And.intro rfl (And.intro rfl (And.intro rfl (trivial)))))))
        · replace h := (X_if h).2 hc
          refine j_iconst C0 (pc := 333) dL_law_333 (v := (0 : Int32)) (by decide) ?_
          exact (j_ΦL_no h).elim
      replace h := (X_if h).2 hc
      have hn0 : ¬ v11 = Int32.ofInt (0) := hc
      by_cases hc : v11 = (1 : Int32)
      · replace h := (X_if h).1 hc
        refine j_tableIn C0 (pc := 40) (off := 295) (tgt := 335) dL_law_40 (by rw [hc]; decide) (by rw [hc]; decide) (by rw [hc]; decide) (by decide) ?_
        refine j_aload_n C0 (pc := 335) dL_law_335 rfl ?_
        refine X_cV C0 (pc := 336) (e' := e_I) (as := []) (rest := []) (s' := fun w => .int w :: []) (g' := (g.1 + 0, g.2 + 0)) v_Law_26_9 (fun Ψ hΨ => K_X11_land v1 M Ψ hΨ) rfl rfl (fun _ => rfl) (by decide) (by show _ ≤ _ ∧ _ ≤ _; omega) rfl (Nat.le_of_ble_eq_true rfl) dL_law_336 h (fun v26 M4 h => ?_)
        refine j_aload_n C0 (pc := 339) dL_law_339 rfl ?_
        refine X_cV C0 (pc := 340) (e' := e_I) (as := []) (rest := [.int v26]) (s' := fun w => .int w :: [.int v26]) (g' := (g.1 + 0, g.2 + 0)) v_Law_30_10 (fun Ψ hΨ => K_X12_land v2 M4 Ψ hΨ) rfl rfl (fun _ => rfl) (by decide) (by show _ ≤ _ ∧ _ ≤ _; omega) rfl (Nat.le_of_ble_eq_true rfl) dL_law_340 h (fun v27 M5 h => ?_)
        refine j_icmp_eq C0 (pc := 343) (tgt := 1282) dL_law_343 (by decide) (fun hc => ?_) (fun hc => ?_)
        · replace h := (X_if h).1 hc
          exact j_J.wide (g' := (g.1 + 6, g.2 + 1100)) ⟨by show _ ≤ _; omega, by show _ ≤ _; omega⟩ (j_J.wq (hk1282 v1 v2 v3 v4 M5 h) (And.intro rfl (And.intro rfl (And.intro rfl (And.intro rfl (And.intro rfl (trivial)))))))
        · replace h := (X_if h).2 hc
          refine j_iconst C0 (pc := 346) dL_law_346 (v := (0 : Int32)) (by decide) ?_
          exact (j_ΦL_no h).elim
      replace h := (X_if h).2 hc
      have hn1 : ¬ v11 = Int32.ofInt (1) := hc
      by_cases hc : v11 = (2 : Int32)
      · replace h := (X_if h).1 hc
        refine j_tableIn C0 (pc := 40) (off := 308) (tgt := 348) dL_law_40 (by rw [hc]; decide) (by rw [hc]; decide) (by rw [hc]; decide) (by decide) ?_
        refine j_aload_n C0 (pc := 348) dL_law_348 rfl ?_
        refine X_cV C0 (pc := 349) (e' := e_I) (as := []) (rest := []) (s' := fun w => .int w :: []) (g' := (g.1 + 4, g.2 + 1021)) v_Law_31_9 (fun Ψ hΨ => K_X11_say v1 M Ψ hΨ) rfl rfl (fun _ => rfl) (by decide) (by show _ ≤ _ ∧ _ ≤ _; omega) rfl (Nat.le_of_ble_eq_true rfl) dL_law_349 h (fun v28 M6 h => ?_)
        refine j_aload_n C0 (pc := 352) dL_law_352 rfl ?_
        refine X_cV C0 (pc := 353) (e' := e_I) (as := []) (rest := [.int v28]) (s' := fun w => .int w :: [.int v28]) (g' := (g.1 + 4, g.2 + 1021)) v_Law_34_10 (fun Ψ hΨ => K_X12_say v2 M6 Ψ hΨ) rfl rfl (fun _ => rfl) (by decide) (by show _ ≤ _ ∧ _ ≤ _; omega) rfl (Nat.le_of_ble_eq_true rfl) dL_law_353 h (fun v29 M7 h => ?_)
        refine j_icmp_eq C0 (pc := 356) (tgt := 1282) dL_law_356 (by decide) (fun hc => ?_) (fun hc => ?_)
        · replace h := (X_if h).1 hc
          exact j_J.wide (g' := (g.1 + 6, g.2 + 1100)) ⟨by show _ ≤ _; omega, by show _ ≤ _; omega⟩ (j_J.wq (hk1282 v1 v2 v3 v4 M7 h) (And.intro rfl (And.intro rfl (And.intro rfl (And.intro rfl (And.intro rfl (trivial)))))))
        · replace h := (X_if h).2 hc
          refine j_iconst C0 (pc := 359) dL_law_359 (v := (0 : Int32)) (by decide) ?_
          exact (j_ΦL_no h).elim
      replace h := (X_if h).2 hc
      have hn2 : ¬ v11 = Int32.ofInt (2) := hc
      by_cases hc : v11 = (3 : Int32)
      · replace h := (X_if h).1 hc
        refine j_tableIn C0 (pc := 40) (off := 321) (tgt := 361) dL_law_40 (by rw [hc]; decide) (by rw [hc]; decide) (by rw [hc]; decide) (by decide) ?_
        refine j_aload_n C0 (pc := 361) dL_law_361 rfl ?_
        refine j_aload_n C0 (pc := 362) dL_law_362 rfl ?_
        refine j_iload C0 (pc := 363) dL_law_363 rfl ?_
        refine j_iconst C0 (pc := 365) dL_law_365 (v := (1 : Int32)) (by decide) ?_
        refine j_iadd C0 (pc := 366) dL_law_366 ?_
        refine X_sld C0 HS (pc := 367) dL_law_367 h (fun v30 h => ?_)
        refine X_cV C0 (pc := 368) (e' := e_I) (as := [.int v30]) (rest := []) (s' := fun w => .int w :: []) (g' := (g.1 + 4, g.2 + 1021)) v_Law_35_9 (fun Ψ hΨ => K_X11_order v1 v30 M Ψ hΨ) rfl rfl (fun _ => rfl) (by decide) (by show _ ≤ _ ∧ _ ≤ _; omega) rfl (Nat.le_of_ble_eq_true rfl) dL_law_368 h (fun v31 M8 h => ?_)
        refine j_aload_n C0 (pc := 371) dL_law_371 rfl ?_
        refine j_aload_n C0 (pc := 372) dL_law_372 rfl ?_
        refine j_iload C0 (pc := 373) dL_law_373 rfl ?_
        refine j_iconst C0 (pc := 375) dL_law_375 (v := (1 : Int32)) (by decide) ?_
        refine j_iadd C0 (pc := 376) dL_law_376 ?_
        refine X_sld C0 HS (pc := 377) dL_law_377 h (fun v32 h => ?_)
        refine X_cV C0 (pc := 378) (e' := e_I) (as := [.int v32]) (rest := [.int v31]) (s' := fun w => .int w :: [.int v31]) (g' := (g.1 + 4, g.2 + 1021)) v_Law_38_10 (fun Ψ hΨ => K_X12_order v2 v32 M8 Ψ hΨ) rfl rfl (fun _ => rfl) (by decide) (by show _ ≤ _ ∧ _ ≤ _; omega) rfl (Nat.le_of_ble_eq_true rfl) dL_law_378 h (fun v33 M9 h => ?_)
        refine j_icmp_eq C0 (pc := 381) (tgt := 1282) dL_law_381 (by decide) (fun hc => ?_) (fun hc => ?_)
        · replace h := (X_if h).1 hc
          exact j_J.wide (g' := (g.1 + 6, g.2 + 1100)) ⟨by show _ ≤ _; omega, by show _ ≤ _; omega⟩ (j_J.wq (hk1282 v1 v2 v3 v4 M9 h) (And.intro rfl (And.intro rfl (And.intro rfl (And.intro rfl (And.intro rfl (trivial)))))))
        · replace h := (X_if h).2 hc
          refine j_iconst C0 (pc := 384) dL_law_384 (v := (0 : Int32)) (by decide) ?_
          exact (j_ΦL_no h).elim
      replace h := (X_if h).2 hc
      have hn3 : ¬ v11 = Int32.ofInt (3) := hc
      by_cases hc : v11 = (4 : Int32)
      · replace h := (X_if h).1 hc
        refine j_tableIn C0 (pc := 40) (off := 346) (tgt := 386) dL_law_40 (by rw [hc]; decide) (by rw [hc]; decide) (by rw [hc]; decide) (by decide) ?_
        refine j_aload_n C0 (pc := 386) dL_law_386 rfl ?_
        refine X_cV C0 (pc := 387) (e' := e_I) (as := []) (rest := []) (s' := fun w => .int w :: []) (g' := (g.1 + 1, g.2 + 1000)) v_Law_39_9 (fun Ψ hΨ => K_X11_ask v1 M Ψ hΨ) rfl rfl (fun _ => rfl) (by decide) (by show _ ≤ _ ∧ _ ≤ _; omega) rfl (Nat.le_of_ble_eq_true rfl) dL_law_387 h (fun v34 M10 h => ?_)
        refine j_aload_n C0 (pc := 390) dL_law_390 rfl ?_
        refine X_cV C0 (pc := 391) (e' := e_I) (as := []) (rest := [.int v34]) (s' := fun w => .int w :: [.int v34]) (g' := (g.1 + 1, g.2 + 1000)) v_Law_42_10 (fun Ψ hΨ => K_X12_ask v2 M10 Ψ hΨ) rfl rfl (fun _ => rfl) (by decide) (by show _ ≤ _ ∧ _ ≤ _; omega) rfl (Nat.le_of_ble_eq_true rfl) dL_law_391 h (fun v35 M11 h => ?_)
        refine j_icmp_eq C0 (pc := 394) (tgt := 1282) dL_law_394 (by decide) (fun hc => ?_) (fun hc => ?_)
        · replace h := (X_if h).1 hc
          exact j_J.wide (g' := (g.1 + 6, g.2 + 1100)) ⟨by show _ ≤ _; omega, by show _ ≤ _; omega⟩ (j_J.wq (hk1282 v1 v2 v3 v4 M11 h) (And.intro rfl (And.intro rfl (And.intro rfl (And.intro rfl (And.intro rfl (trivial)))))))
        · replace h := (X_if h).2 hc
          refine j_iconst C0 (pc := 397) dL_law_397 (v := (0 : Int32)) (by decide) ?_
          exact (j_ΦL_no h).elim
      replace h := (X_if h).2 hc
      have hn4 : ¬ v11 = Int32.ofInt (4) := hc
      by_cases hc : v11 = (5 : Int32)
      · replace h := (X_if h).1 hc
        refine j_tableIn C0 (pc := 40) (off := 359) (tgt := 399) dL_law_40 (by rw [hc]; decide) (by rw [hc]; decide) (by rw [hc]; decide) (by decide) ?_
        refine j_aload_n C0 (pc := 399) dL_law_399 rfl ?_
        refine j_aload_n C0 (pc := 400) dL_law_400 rfl ?_
        refine j_iload C0 (pc := 401) dL_law_401 rfl ?_
        refine j_iconst C0 (pc := 403) dL_law_403 (v := (1 : Int32)) (by decide) ?_
        refine j_iadd C0 (pc := 404) dL_law_404 ?_
        refine X_sld C0 HS (pc := 405) dL_law_405 h (fun v36 h => ?_)
        refine X_cV C0 (pc := 406) (e' := e_I) (as := [.int v36]) (rest := []) (s' := fun w => .int w :: []) (g' := (g.1 + 0, g.2 + 0)) v_Law_43_9 (fun Ψ hΨ => K_X11_unsay v1 v36 M Ψ hΨ) rfl rfl (fun _ => rfl) (by decide) (by show _ ≤ _ ∧ _ ≤ _; omega) rfl (Nat.le_of_ble_eq_true rfl) dL_law_406 h (fun v37 M12 h => ?_)
        refine j_aload_n C0 (pc := 409) dL_law_409 rfl ?_
        refine j_aload_n C0 (pc := 410) dL_law_410 rfl ?_
        refine j_iload C0 (pc := 411) dL_law_411 rfl ?_
        refine j_iconst C0 (pc := 413) dL_law_413 (v := (1 : Int32)) (by decide) ?_
        refine j_iadd C0 (pc := 414) dL_law_414 ?_
        refine X_sld C0 HS (pc := 415) dL_law_415 h (fun v38 h => ?_)
        refine X_cV C0 (pc := 416) (e' := e_I) (as := [.int v38]) (rest := [.int v37]) (s' := fun w => .int w :: [.int v37]) (g' := (g.1 + 0, g.2 + 0)) v_Law_47_10 (fun Ψ hΨ => K_X12_unsay v2 v38 M12 Ψ hΨ) rfl rfl (fun _ => rfl) (by decide) (by show _ ≤ _ ∧ _ ≤ _; omega) rfl (Nat.le_of_ble_eq_true rfl) dL_law_416 h (fun v39 M13 h => ?_)
        refine j_icmp_eq C0 (pc := 419) (tgt := 1282) dL_law_419 (by decide) (fun hc => ?_) (fun hc => ?_)
        · replace h := (X_if h).1 hc
          exact j_J.wide (g' := (g.1 + 6, g.2 + 1100)) ⟨by show _ ≤ _; omega, by show _ ≤ _; omega⟩ (j_J.wq (hk1282 v1 v2 v3 v4 M13 h) (And.intro rfl (And.intro rfl (And.intro rfl (And.intro rfl (And.intro rfl (trivial)))))))
        · replace h := (X_if h).2 hc
          refine j_iconst C0 (pc := 422) dL_law_422 (v := (0 : Int32)) (by decide) ?_
          exact (j_ΦL_no h).elim
      replace h := (X_if h).2 hc
      have hn5 : ¬ v11 = Int32.ofInt (5) := hc
      by_cases hc : v11 = (6 : Int32)
      · replace h := (X_if h).1 hc
        refine j_tableIn C0 (pc := 40) (off := 384) (tgt := 424) dL_law_40 (by rw [hc]; decide) (by rw [hc]; decide) (by rw [hc]; decide) (by decide) ?_
        refine j_aload_n C0 (pc := 424) dL_law_424 rfl ?_
        refine X_cV C0 (pc := 425) (e' := e_I) (as := []) (rest := []) (s' := fun w => .int w :: []) (g' := (g.1 + 0, g.2 + 0)) v_Law_48_9 (fun Ψ hΨ => K_X11_undo v1 M Ψ hΨ) rfl rfl (fun _ => rfl) (by decide) (by show _ ≤ _ ∧ _ ≤ _; omega) rfl (Nat.le_of_ble_eq_true rfl) dL_law_425 h (fun v40 M14 h => ?_)
        refine j_aload_n C0 (pc := 428) dL_law_428 rfl ?_
        refine X_cV C0 (pc := 429) (e' := e_I) (as := []) (rest := [.int v40]) (s' := fun w => .int w :: [.int v40]) (g' := (g.1 + 0, g.2 + 0)) v_Law_52_10 (fun Ψ hΨ => K_X12_undo v2 M14 Ψ hΨ) rfl rfl (fun _ => rfl) (by decide) (by show _ ≤ _ ∧ _ ≤ _; omega) rfl (Nat.le_of_ble_eq_true rfl) dL_law_429 h (fun v41 M15 h => ?_)
        refine j_icmp_eq C0 (pc := 432) (tgt := 1282) dL_law_432 (by decide) (fun hc => ?_) (fun hc => ?_)
        · replace h := (X_if h).1 hc
          exact j_J.wide (g' := (g.1 + 6, g.2 + 1100)) ⟨by show _ ≤ _; omega, by show _ ≤ _; omega⟩ (j_J.wq (hk1282 v1 v2 v3 v4 M15 h) (And.intro rfl (And.intro rfl (And.intro rfl (And.intro rfl (And.intro rfl (trivial)))))))
        · replace h := (X_if h).2 hc
          refine j_iconst C0 (pc := 435) dL_law_435 (v := (0 : Int32)) (by decide) ?_
          exact (j_ΦL_no h).elim
      replace h := (X_if h).2 hc
      have hn6 : ¬ v11 = Int32.ofInt (6) := hc
      by_cases hc : v11 = (7 : Int32)
      · replace h := (X_if h).1 hc
        refine j_tableIn C0 (pc := 40) (off := 397) (tgt := 437) dL_law_40 (by rw [hc]; decide) (by rw [hc]; decide) (by rw [hc]; decide) (by decide) ?_
        refine j_aload_n C0 (pc := 437) dL_law_437 rfl ?_
        refine j_aload_n C0 (pc := 438) dL_law_438 rfl ?_
        refine j_iload C0 (pc := 439) dL_law_439 rfl ?_
        refine j_iconst C0 (pc := 441) dL_law_441 (v := (1 : Int32)) (by decide) ?_
        refine j_iadd C0 (pc := 442) dL_law_442 ?_
        refine X_sld C0 HS (pc := 443) dL_law_443 h (fun v42 h => ?_)
        refine X_cV C0 (pc := 444) (e' := e_I) (as := [.int v42]) (rest := []) (s' := fun w => .int w :: []) (g' := (g.1 + 0, g.2 + 0)) v_Law_53_9 (fun Ψ hΨ => K_X11_dawn v1 v42 M Ψ hΨ) rfl rfl (fun _ => rfl) (by decide) (by show _ ≤ _ ∧ _ ≤ _; omega) rfl (Nat.le_of_ble_eq_true rfl) dL_law_444 h (fun v43 M16 h => ?_)
        refine j_aload_n C0 (pc := 447) dL_law_447 rfl ?_
        refine j_aload_n C0 (pc := 448) dL_law_448 rfl ?_
        refine j_iload C0 (pc := 449) dL_law_449 rfl ?_
        refine j_iconst C0 (pc := 451) dL_law_451 (v := (1 : Int32)) (by decide) ?_
        refine j_iadd C0 (pc := 452) dL_law_452 ?_
        refine X_sld C0 HS (pc := 453) dL_law_453 h (fun v44 h => ?_)
        refine X_cV C0 (pc := 454) (e' := e_I) (as := [.int v44]) (rest := [.int v43]) (s' := fun w => .int w :: [.int v43]) (g' := (g.1 + 0, g.2 + 0)) v_Law_56_10 (fun Ψ hΨ => K_X12_dawn v2 v44 M16 Ψ hΨ) rfl rfl (fun _ => rfl) (by decide) (by show _ ≤ _ ∧ _ ≤ _; omega) rfl (Nat.le_of_ble_eq_true rfl) dL_law_454 h (fun v45 M17 h => ?_)
        refine j_icmp_eq C0 (pc := 457) (tgt := 1282) dL_law_457 (by decide) (fun hc => ?_) (fun hc => ?_)
        · replace h := (X_if h).1 hc
          exact j_J.wide (g' := (g.1 + 6, g.2 + 1100)) ⟨by show _ ≤ _; omega, by show _ ≤ _; omega⟩ (j_J.wq (hk1282 v1 v2 v3 v4 M17 h) (And.intro rfl (And.intro rfl (And.intro rfl (And.intro rfl (And.intro rfl (trivial)))))))
        · replace h := (X_if h).2 hc
          refine j_iconst C0 (pc := 460) dL_law_460 (v := (0 : Int32)) (by decide) ?_
          exact (j_ΦL_no h).elim
      replace h := (X_if h).2 hc
      have hn7 : ¬ v11 = Int32.ofInt (7) := hc
      by_cases hc : v11 = (8 : Int32)
      · replace h := (X_if h).1 hc
        refine j_tableIn C0 (pc := 40) (off := 422) (tgt := 462) dL_law_40 (by rw [hc]; decide) (by rw [hc]; decide) (by rw [hc]; decide) (by decide) ?_
        refine j_aload_n C0 (pc := 462) dL_law_462 rfl ?_
        refine j_aload_n C0 (pc := 463) dL_law_463 rfl ?_
        refine j_iload C0 (pc := 464) dL_law_464 rfl ?_
        refine j_iconst C0 (pc := 466) dL_law_466 (v := (1 : Int32)) (by decide) ?_
        refine j_iadd C0 (pc := 467) dL_law_467 ?_
        refine X_sld C0 HS (pc := 468) dL_law_468 h (fun v46 h => ?_)
        refine X_cV C0 (pc := 469) (e' := e_I) (as := [.int v46]) (rest := []) (s' := fun w => .int w :: []) (g' := (g.1 + 0, g.2 + 0)) v_Law_57_9 (fun Ψ hΨ => K_X11_thing v1 v46 M Ψ hΨ) rfl rfl (fun _ => rfl) (by decide) (by show _ ≤ _ ∧ _ ≤ _; omega) rfl (Nat.le_of_ble_eq_true rfl) dL_law_469 h (fun v47 M18 h => ?_)
        refine j_aload_n C0 (pc := 472) dL_law_472 rfl ?_
        refine j_aload_n C0 (pc := 473) dL_law_473 rfl ?_
        refine j_iload C0 (pc := 474) dL_law_474 rfl ?_
        refine j_iconst C0 (pc := 476) dL_law_476 (v := (1 : Int32)) (by decide) ?_
        refine j_iadd C0 (pc := 477) dL_law_477 ?_
        refine X_sld C0 HS (pc := 478) dL_law_478 h (fun v48 h => ?_)
        refine X_cV C0 (pc := 479) (e' := e_I) (as := [.int v48]) (rest := [.int v47]) (s' := fun w => .int w :: [.int v47]) (g' := (g.1 + 0, g.2 + 0)) v_Law_60_10 (fun Ψ hΨ => K_X12_thing v2 v48 M18 Ψ hΨ) rfl rfl (fun _ => rfl) (by decide) (by show _ ≤ _ ∧ _ ≤ _; omega) rfl (Nat.le_of_ble_eq_true rfl) dL_law_479 h (fun v49 M19 h => ?_)
        refine j_icmp_eq C0 (pc := 482) (tgt := 1282) dL_law_482 (by decide) (fun hc => ?_) (fun hc => ?_)
        · replace h := (X_if h).1 hc
          exact j_J.wide (g' := (g.1 + 6, g.2 + 1100)) ⟨by show _ ≤ _; omega, by show _ ≤ _; omega⟩ (j_J.wq (hk1282 v1 v2 v3 v4 M19 h) (And.intro rfl (And.intro rfl (And.intro rfl (And.intro rfl (And.intro rfl (trivial)))))))
        · replace h := (X_if h).2 hc
          refine j_iconst C0 (pc := 485) dL_law_485 (v := (0 : Int32)) (by decide) ?_
          exact (j_ΦL_no h).elim
      replace h := (X_if h).2 hc
      have hn8 : ¬ v11 = Int32.ofInt (8) := hc
      by_cases hc : v11 = (9 : Int32)
      · replace h := (X_if h).1 hc
        refine j_tableIn C0 (pc := 40) (off := 447) (tgt := 487) dL_law_40 (by rw [hc]; decide) (by rw [hc]; decide) (by rw [hc]; decide) (by decide) ?_
        refine j_aload_n C0 (pc := 487) dL_law_487 rfl ?_
        refine j_aload_n C0 (pc := 488) dL_law_488 rfl ?_
        refine j_iload C0 (pc := 489) dL_law_489 rfl ?_
        refine j_iconst C0 (pc := 491) dL_law_491 (v := (1 : Int32)) (by decide) ?_
        refine j_iadd C0 (pc := 492) dL_law_492 ?_
        refine X_sld C0 HS (pc := 493) dL_law_493 h (fun v50 h => ?_)
        refine X_cV C0 (pc := 494) (e' := e_I) (as := [.int v50]) (rest := []) (s' := fun w => .int w :: []) (g' := (g.1 + 0, g.2 + 0)) v_Law_61_9 (fun Ψ hΨ => K_X11_verb v1 v50 M Ψ hΨ) rfl rfl (fun _ => rfl) (by decide) (by show _ ≤ _ ∧ _ ≤ _; omega) rfl (Nat.le_of_ble_eq_true rfl) dL_law_494 h (fun v51 M20 h => ?_)
        refine j_aload_n C0 (pc := 497) dL_law_497 rfl ?_
        refine j_aload_n C0 (pc := 498) dL_law_498 rfl ?_
        refine j_iload C0 (pc := 499) dL_law_499 rfl ?_
        refine j_iconst C0 (pc := 501) dL_law_501 (v := (1 : Int32)) (by decide) ?_
        refine j_iadd C0 (pc := 502) dL_law_502 ?_
        refine X_sld C0 HS (pc := 503) dL_law_503 h (fun v52 h => ?_)
        refine X_cV C0 (pc := 504) (e' := e_I) (as := [.int v52]) (rest := [.int v51]) (s' := fun w => .int w :: [.int v51]) (g' := (g.1 + 0, g.2 + 0)) v_Law_64_10 (fun Ψ hΨ => K_X12_verb v2 v52 M20 Ψ hΨ) rfl rfl (fun _ => rfl) (by decide) (by show _ ≤ _ ∧ _ ≤ _; omega) rfl (Nat.le_of_ble_eq_true rfl) dL_law_504 h (fun v53 M21 h => ?_)
        refine j_icmp_eq C0 (pc := 507) (tgt := 1282) dL_law_507 (by decide) (fun hc => ?_) (fun hc => ?_)
        · replace h := (X_if h).1 hc
          exact j_J.wide (g' := (g.1 + 6, g.2 + 1100)) ⟨by show _ ≤ _; omega, by show _ ≤ _; omega⟩ (j_J.wq (hk1282 v1 v2 v3 v4 M21 h) (And.intro rfl (And.intro rfl (And.intro rfl (And.intro rfl (And.intro rfl (trivial)))))))
        · replace h := (X_if h).2 hc
          refine j_iconst C0 (pc := 510) dL_law_510 (v := (0 : Int32)) (by decide) ?_
          exact (j_ΦL_no h).elim
      replace h := (X_if h).2 hc
      have hn9 : ¬ v11 = Int32.ofInt (9) := hc
      by_cases hc : v11 = (10 : Int32)
      · replace h := (X_if h).1 hc
        refine j_tableIn C0 (pc := 40) (off := 472) (tgt := 512) dL_law_40 (by rw [hc]; decide) (by rw [hc]; decide) (by rw [hc]; decide) (by decide) ?_
        refine j_aload_n C0 (pc := 512) dL_law_512 rfl ?_
        refine j_aload_n C0 (pc := 513) dL_law_513 rfl ?_
        refine j_iload C0 (pc := 514) dL_law_514 rfl ?_
        refine j_iconst C0 (pc := 516) dL_law_516 (v := (1 : Int32)) (by decide) ?_
        refine j_iadd C0 (pc := 517) dL_law_517 ?_
        refine X_sld C0 HS (pc := 518) dL_law_518 h (fun v54 h => ?_)
        refine j_aload_n C0 (pc := 519) dL_law_519 rfl ?_
        refine j_iload C0 (pc := 520) dL_law_520 rfl ?_
        refine j_iconst C0 (pc := 522) dL_law_522 (v := (2 : Int32)) (by decide) ?_
        refine j_iadd C0 (pc := 523) dL_law_523 ?_
        refine X_sld C0 HS (pc := 524) dL_law_524 h (fun v55 h => ?_)
        refine X_cV C0 (pc := 525) (e' := e_I) (as := [.int v54, .int v55]) (rest := []) (s' := fun w => .int w :: []) (g' := (g.1 + 0, g.2 + 0)) v_Law_65_9 (fun Ψ hΨ => K_X11_saying v1 v54 v55 M Ψ hΨ) rfl rfl (fun _ => rfl) (by decide) (by show _ ≤ _ ∧ _ ≤ _; omega) rfl (Nat.le_of_ble_eq_true rfl) dL_law_525 h (fun v56 M22 h => ?_)
        refine j_aload_n C0 (pc := 528) dL_law_528 rfl ?_
        refine j_aload_n C0 (pc := 529) dL_law_529 rfl ?_
        refine j_iload C0 (pc := 530) dL_law_530 rfl ?_
        refine j_iconst C0 (pc := 532) dL_law_532 (v := (1 : Int32)) (by decide) ?_
        refine j_iadd C0 (pc := 533) dL_law_533 ?_
        refine X_sld C0 HS (pc := 534) dL_law_534 h (fun v57 h => ?_)
        refine j_aload_n C0 (pc := 535) dL_law_535 rfl ?_
        refine j_iload C0 (pc := 536) dL_law_536 rfl ?_
        refine j_iconst C0 (pc := 538) dL_law_538 (v := (2 : Int32)) (by decide) ?_
        refine j_iadd C0 (pc := 539) dL_law_539 ?_
        refine X_sld C0 HS (pc := 540) dL_law_540 h (fun v58 h => ?_)
        refine X_cV C0 (pc := 541) (e' := e_I) (as := [.int v57, .int v58]) (rest := [.int v56]) (s' := fun w => .int w :: [.int v56]) (g' := (g.1 + 0, g.2 + 0)) v_Law_69_10 (fun Ψ hΨ => K_X12_saying v2 v57 v58 M22 Ψ hΨ) rfl rfl (fun _ => rfl) (by decide) (by show _ ≤ _ ∧ _ ≤ _; omega) rfl (Nat.le_of_ble_eq_true rfl) dL_law_541 h (fun v59 M23 h => ?_)
        refine j_icmp_eq C0 (pc := 544) (tgt := 1282) dL_law_544 (by decide) (fun hc => ?_) (fun hc => ?_)
        · replace h := (X_if h).1 hc
          exact j_J.wide (g' := (g.1 + 6, g.2 + 1100)) ⟨by show _ ≤ _; omega, by show _ ≤ _; omega⟩ (j_J.wq (hk1282 v1 v2 v3 v4 M23 h) (And.intro rfl (And.intro rfl (And.intro rfl (And.intro rfl (And.intro rfl (trivial)))))))
        · replace h := (X_if h).2 hc
          refine j_iconst C0 (pc := 547) dL_law_547 (v := (0 : Int32)) (by decide) ?_
          exact (j_ΦL_no h).elim
      replace h := (X_if h).2 hc
      have hn10 : ¬ v11 = Int32.ofInt (10) := hc
      by_cases hc : v11 = (11 : Int32)
      · replace h := (X_if h).1 hc
        refine j_tableIn C0 (pc := 40) (off := 509) (tgt := 549) dL_law_40 (by rw [hc]; decide) (by rw [hc]; decide) (by rw [hc]; decide) (by decide) ?_
        refine j_aload_n C0 (pc := 549) dL_law_549 rfl ?_
        refine j_aload_n C0 (pc := 550) dL_law_550 rfl ?_
        refine j_iload C0 (pc := 551) dL_law_551 rfl ?_
        refine j_iconst C0 (pc := 553) dL_law_553 (v := (1 : Int32)) (by decide) ?_
        refine j_iadd C0 (pc := 554) dL_law_554 ?_
        refine X_sld C0 HS (pc := 555) dL_law_555 h (fun v60 h => ?_)
        refine j_aload_n C0 (pc := 556) dL_law_556 rfl ?_
        refine j_iload C0 (pc := 557) dL_law_557 rfl ?_
        refine j_iconst C0 (pc := 559) dL_law_559 (v := (2 : Int32)) (by decide) ?_
        refine j_iadd C0 (pc := 560) dL_law_560 ?_
        refine X_sld C0 HS (pc := 561) dL_law_561 h (fun v61 h => ?_)
        refine X_cV C0 (pc := 562) (e' := e_I) (as := [.int v60, .int v61]) (rest := []) (s' := fun w => .int w :: []) (g' := (g.1 + 0, g.2 + 0)) v_Law_70_9 (fun Ψ hΨ => K_X11_ordered v1 v60 v61 M Ψ hΨ) rfl rfl (fun _ => rfl) (by decide) (by show _ ≤ _ ∧ _ ≤ _; omega) rfl (Nat.le_of_ble_eq_true rfl) dL_law_562 h (fun v62 M24 h => ?_)
        refine j_aload_n C0 (pc := 565) dL_law_565 rfl ?_
        refine j_aload_n C0 (pc := 566) dL_law_566 rfl ?_
        refine j_iload C0 (pc := 567) dL_law_567 rfl ?_
        refine j_iconst C0 (pc := 569) dL_law_569 (v := (1 : Int32)) (by decide) ?_
        refine j_iadd C0 (pc := 570) dL_law_570 ?_
        refine X_sld C0 HS (pc := 571) dL_law_571 h (fun v63 h => ?_)
        refine j_aload_n C0 (pc := 572) dL_law_572 rfl ?_
        refine j_iload C0 (pc := 573) dL_law_573 rfl ?_
        refine j_iconst C0 (pc := 575) dL_law_575 (v := (2 : Int32)) (by decide) ?_
        refine j_iadd C0 (pc := 576) dL_law_576 ?_
        refine X_sld C0 HS (pc := 577) dL_law_577 h (fun v64 h => ?_)
        refine X_cV C0 (pc := 578) (e' := e_I) (as := [.int v63, .int v64]) (rest := [.int v62]) (s' := fun w => .int w :: [.int v62]) (g' := (g.1 + 0, g.2 + 0)) v_Law_73_10 (fun Ψ hΨ => K_X12_ordered v2 v63 v64 M24 Ψ hΨ) rfl rfl (fun _ => rfl) (by decide) (by show _ ≤ _ ∧ _ ≤ _; omega) rfl (Nat.le_of_ble_eq_true rfl) dL_law_578 h (fun v65 M25 h => ?_)
        refine j_icmp_eq C0 (pc := 581) (tgt := 1282) dL_law_581 (by decide) (fun hc => ?_) (fun hc => ?_)
        · replace h := (X_if h).1 hc
          exact j_J.wide (g' := (g.1 + 6, g.2 + 1100)) ⟨by show _ ≤ _; omega, by show _ ≤ _; omega⟩ (j_J.wq (hk1282 v1 v2 v3 v4 M25 h) (And.intro rfl (And.intro rfl (And.intro rfl (And.intro rfl (And.intro rfl (trivial)))))))
        · replace h := (X_if h).2 hc
          refine j_iconst C0 (pc := 584) dL_law_584 (v := (0 : Int32)) (by decide) ?_
          exact (j_ΦL_no h).elim
      replace h := (X_if h).2 hc
      have hn11 : ¬ v11 = Int32.ofInt (11) := hc
      by_cases hc : v11 = (12 : Int32)
      · replace h := (X_if h).1 hc
        refine j_tableIn C0 (pc := 40) (off := 546) (tgt := 586) dL_law_40 (by rw [hc]; decide) (by rw [hc]; decide) (by rw [hc]; decide) (by decide) ?_
        refine j_aload_n C0 (pc := 586) dL_law_586 rfl ?_
        refine j_aload_n C0 (pc := 587) dL_law_587 rfl ?_
        refine j_iload C0 (pc := 588) dL_law_588 rfl ?_
        refine j_iconst C0 (pc := 590) dL_law_590 (v := (1 : Int32)) (by decide) ?_
        refine j_iadd C0 (pc := 591) dL_law_591 ?_
        refine X_sld C0 HS (pc := 592) dL_law_592 h (fun v66 h => ?_)
        refine X_cV C0 (pc := 593) (e' := e_I) (as := [.int v66]) (rest := []) (s' := fun w => .int w :: []) (g' := (g.1 + 0, g.2 + 0)) v_Law_74_9 (fun Ψ hΨ => K_X11_worlds v1 v66 M Ψ hΨ) rfl rfl (fun _ => rfl) (by decide) (by show _ ≤ _ ∧ _ ≤ _; omega) rfl (Nat.le_of_ble_eq_true rfl) dL_law_593 h (fun v67 M26 h => ?_)
        refine j_aload_n C0 (pc := 596) dL_law_596 rfl ?_
        refine j_aload_n C0 (pc := 597) dL_law_597 rfl ?_
        refine j_iload C0 (pc := 598) dL_law_598 rfl ?_
        refine j_iconst C0 (pc := 600) dL_law_600 (v := (1 : Int32)) (by decide) ?_
        refine j_iadd C0 (pc := 601) dL_law_601 ?_
        refine X_sld C0 HS (pc := 602) dL_law_602 h (fun v68 h => ?_)
        refine X_cV C0 (pc := 603) (e' := e_I) (as := [.int v68]) (rest := [.int v67]) (s' := fun w => .int w :: [.int v67]) (g' := (g.1 + 0, g.2 + 0)) v_Law_77_10 (fun Ψ hΨ => K_X12_worlds v2 v68 M26 Ψ hΨ) rfl rfl (fun _ => rfl) (by decide) (by show _ ≤ _ ∧ _ ≤ _; omega) rfl (Nat.le_of_ble_eq_true rfl) dL_law_603 h (fun v69 M27 h => ?_)
        refine j_icmp_eq C0 (pc := 606) (tgt := 1282) dL_law_606 (by decide) (fun hc => ?_) (fun hc => ?_)
        · replace h := (X_if h).1 hc
          exact j_J.wide (g' := (g.1 + 6, g.2 + 1100)) ⟨by show _ ≤ _; omega, by show _ ≤ _; omega⟩ (j_J.wq (hk1282 v1 v2 v3 v4 M27 h) (And.intro rfl (And.intro rfl (And.intro rfl (And.intro rfl (And.intro rfl (trivial)))))))
        · replace h := (X_if h).2 hc
          refine j_iconst C0 (pc := 609) dL_law_609 (v := (0 : Int32)) (by decide) ?_
          exact (j_ΦL_no h).elim
      replace h := (X_if h).2 hc
      have hn12 : ¬ v11 = Int32.ofInt (12) := hc
      by_cases hc : v11 = (13 : Int32)
      · replace h := (X_if h).1 hc
        refine j_tableIn C0 (pc := 40) (off := 571) (tgt := 611) dL_law_40 (by rw [hc]; decide) (by rw [hc]; decide) (by rw [hc]; decide) (by decide) ?_
        refine j_aload_n C0 (pc := 611) dL_law_611 rfl ?_
        refine j_aload_n C0 (pc := 612) dL_law_612 rfl ?_
        refine j_iload C0 (pc := 613) dL_law_613 rfl ?_
        refine j_iconst C0 (pc := 615) dL_law_615 (v := (1 : Int32)) (by decide) ?_
        refine j_iadd C0 (pc := 616) dL_law_616 ?_
        refine X_sld C0 HS (pc := 617) dL_law_617 h (fun v70 h => ?_)
        refine X_cV C0 (pc := 618) (e' := e_I) (as := [.int v70]) (rest := []) (s' := fun w => .int w :: []) (g' := (g.1 + 0, g.2 + 0)) v_Law_78_9 (fun Ψ hΨ => K_X11_left v1 v70 M Ψ hΨ) rfl rfl (fun _ => rfl) (by decide) (by show _ ≤ _ ∧ _ ≤ _; omega) rfl (Nat.le_of_ble_eq_true rfl) dL_law_618 h (fun v71 M28 h => ?_)
        refine j_aload_n C0 (pc := 621) dL_law_621 rfl ?_
        refine j_aload_n C0 (pc := 622) dL_law_622 rfl ?_
        refine j_iload C0 (pc := 623) dL_law_623 rfl ?_
        refine j_iconst C0 (pc := 625) dL_law_625 (v := (1 : Int32)) (by decide) ?_
        refine j_iadd C0 (pc := 626) dL_law_626 ?_
        refine X_sld C0 HS (pc := 627) dL_law_627 h (fun v72 h => ?_)
        refine X_cV C0 (pc := 628) (e' := e_I) (as := [.int v72]) (rest := [.int v71]) (s' := fun w => .int w :: [.int v71]) (g' := (g.1 + 0, g.2 + 0)) v_Law_81_10 (fun Ψ hΨ => K_X12_left v2 v72 M28 Ψ hΨ) rfl rfl (fun _ => rfl) (by decide) (by show _ ≤ _ ∧ _ ≤ _; omega) rfl (Nat.le_of_ble_eq_true rfl) dL_law_628 h (fun v73 M29 h => ?_)
        refine j_icmp_eq C0 (pc := 631) (tgt := 1282) dL_law_631 (by decide) (fun hc => ?_) (fun hc => ?_)
        · replace h := (X_if h).1 hc
          exact j_J.wide (g' := (g.1 + 6, g.2 + 1100)) ⟨by show _ ≤ _; omega, by show _ ≤ _; omega⟩ (j_J.wq (hk1282 v1 v2 v3 v4 M29 h) (And.intro rfl (And.intro rfl (And.intro rfl (And.intro rfl (And.intro rfl (trivial)))))))
        · replace h := (X_if h).2 hc
          refine j_iconst C0 (pc := 634) dL_law_634 (v := (0 : Int32)) (by decide) ?_
          exact (j_ΦL_no h).elim
      replace h := (X_if h).2 hc
      have hn13 : ¬ v11 = Int32.ofInt (13) := hc
      by_cases hc : v11 = (14 : Int32)
      · replace h := (X_if h).1 hc
        refine j_tableIn C0 (pc := 40) (off := 596) (tgt := 636) dL_law_40 (by rw [hc]; decide) (by rw [hc]; decide) (by rw [hc]; decide) (by decide) ?_
        refine j_aload_n C0 (pc := 636) dL_law_636 rfl ?_
        refine j_aload_n C0 (pc := 637) dL_law_637 rfl ?_
        refine j_iload C0 (pc := 638) dL_law_638 rfl ?_
        refine j_iconst C0 (pc := 640) dL_law_640 (v := (1 : Int32)) (by decide) ?_
        refine j_iadd C0 (pc := 641) dL_law_641 ?_
        refine X_sld C0 HS (pc := 642) dL_law_642 h (fun v74 h => ?_)
        refine j_aload_n C0 (pc := 643) dL_law_643 rfl ?_
        refine j_iload C0 (pc := 644) dL_law_644 rfl ?_
        refine j_iconst C0 (pc := 646) dL_law_646 (v := (2 : Int32)) (by decide) ?_
        refine j_iadd C0 (pc := 647) dL_law_647 ?_
        refine X_sld C0 HS (pc := 648) dL_law_648 h (fun v75 h => ?_)
        refine j_aload_n C0 (pc := 649) dL_law_649 rfl ?_
        refine j_iload C0 (pc := 650) dL_law_650 rfl ?_
        refine j_iconst C0 (pc := 652) dL_law_652 (v := (3 : Int32)) (by decide) ?_
        refine j_iadd C0 (pc := 653) dL_law_653 ?_
        refine X_sld C0 HS (pc := 654) dL_law_654 h (fun v76 h => ?_)
        refine X_cV C0 (pc := 655) (e' := e_I) (as := [.int v74, .int v75, .int v76]) (rest := []) (s' := fun w => .int w :: []) (g' := (g.1 + 0, g.2 + 0)) v_Law_82_9 (fun Ψ hΨ => K_X11_holds v1 v74 v75 v76 M Ψ hΨ) rfl rfl (fun _ => rfl) (by decide) (by show _ ≤ _ ∧ _ ≤ _; omega) rfl (Nat.le_of_ble_eq_true rfl) dL_law_655 h (fun v77 M30 h => ?_)
        refine j_aload_n C0 (pc := 658) dL_law_658 rfl ?_
        refine j_aload_n C0 (pc := 659) dL_law_659 rfl ?_
        refine j_iload C0 (pc := 660) dL_law_660 rfl ?_
        refine j_iconst C0 (pc := 662) dL_law_662 (v := (1 : Int32)) (by decide) ?_
        refine j_iadd C0 (pc := 663) dL_law_663 ?_
        refine X_sld C0 HS (pc := 664) dL_law_664 h (fun v78 h => ?_)
        refine j_aload_n C0 (pc := 665) dL_law_665 rfl ?_
        refine j_iload C0 (pc := 666) dL_law_666 rfl ?_
        refine j_iconst C0 (pc := 668) dL_law_668 (v := (2 : Int32)) (by decide) ?_
        refine j_iadd C0 (pc := 669) dL_law_669 ?_
        refine X_sld C0 HS (pc := 670) dL_law_670 h (fun v79 h => ?_)
        refine j_aload_n C0 (pc := 671) dL_law_671 rfl ?_
        refine j_iload C0 (pc := 672) dL_law_672 rfl ?_
        refine j_iconst C0 (pc := 674) dL_law_674 (v := (3 : Int32)) (by decide) ?_
        refine j_iadd C0 (pc := 675) dL_law_675 ?_
        refine X_sld C0 HS (pc := 676) dL_law_676 h (fun v80 h => ?_)
        refine X_cV C0 (pc := 677) (e' := e_I) (as := [.int v78, .int v79, .int v80]) (rest := [.int v77]) (s' := fun w => .int w :: [.int v77]) (g' := (g.1 + 0, g.2 + 0)) v_Law_86_10 (fun Ψ hΨ => K_X12_holds v2 v78 v79 v80 M30 Ψ hΨ) rfl rfl (fun _ => rfl) (by decide) (by show _ ≤ _ ∧ _ ≤ _; omega) rfl (Nat.le_of_ble_eq_true rfl) dL_law_677 h (fun v81 M31 h => ?_)
        refine j_icmp_eq C0 (pc := 680) (tgt := 1282) dL_law_680 (by decide) (fun hc => ?_) (fun hc => ?_)
        · replace h := (X_if h).1 hc
          exact j_J.wide (g' := (g.1 + 6, g.2 + 1100)) ⟨by show _ ≤ _; omega, by show _ ≤ _; omega⟩ (j_J.wq (hk1282 v1 v2 v3 v4 M31 h) (And.intro rfl (And.intro rfl (And.intro rfl (And.intro rfl (And.intro rfl (trivial)))))))
        · replace h := (X_if h).2 hc
          refine j_iconst C0 (pc := 683) dL_law_683 (v := (0 : Int32)) (by decide) ?_
          exact (j_ΦL_no h).elim
      replace h := (X_if h).2 hc
      have hn14 : ¬ v11 = Int32.ofInt (14) := hc
      by_cases hc : v11 = (15 : Int32)
      · replace h := (X_if h).1 hc
        refine j_tableIn C0 (pc := 40) (off := 645) (tgt := 685) dL_law_40 (by rw [hc]; decide) (by rw [hc]; decide) (by rw [hc]; decide) (by decide) ?_
        refine j_aload_n C0 (pc := 685) dL_law_685 rfl ?_
        refine j_aload_n C0 (pc := 686) dL_law_686 rfl ?_
        refine j_iload C0 (pc := 687) dL_law_687 rfl ?_
        refine j_iconst C0 (pc := 689) dL_law_689 (v := (1 : Int32)) (by decide) ?_
        refine j_iadd C0 (pc := 690) dL_law_690 ?_
        refine X_sld C0 HS (pc := 691) dL_law_691 h (fun v82 h => ?_)
        refine X_cV C0 (pc := 692) (e' := e_I) (as := [.int v82]) (rest := []) (s' := fun w => .int w :: []) (g' := (g.1 + 0, g.2 + 0)) v_Law_87_9 (fun Ψ hΨ => K_X11_meant v1 v82 M Ψ hΨ) rfl rfl (fun _ => rfl) (by decide) (by show _ ≤ _ ∧ _ ≤ _; omega) rfl (Nat.le_of_ble_eq_true rfl) dL_law_692 h (fun v83 M32 h => ?_)
        refine j_aload_n C0 (pc := 695) dL_law_695 rfl ?_
        refine j_aload_n C0 (pc := 696) dL_law_696 rfl ?_
        refine j_iload C0 (pc := 697) dL_law_697 rfl ?_
        refine j_iconst C0 (pc := 699) dL_law_699 (v := (1 : Int32)) (by decide) ?_
        refine j_iadd C0 (pc := 700) dL_law_700 ?_
        refine X_sld C0 HS (pc := 701) dL_law_701 h (fun v84 h => ?_)
        refine X_cV C0 (pc := 702) (e' := e_I) (as := [.int v84]) (rest := [.int v83]) (s' := fun w => .int w :: [.int v83]) (g' := (g.1 + 0, g.2 + 0)) v_Law_90_10 (fun Ψ hΨ => K_X12_meant v2 v84 M32 Ψ hΨ) rfl rfl (fun _ => rfl) (by decide) (by show _ ≤ _ ∧ _ ≤ _; omega) rfl (Nat.le_of_ble_eq_true rfl) dL_law_702 h (fun v85 M33 h => ?_)
        refine j_icmp_eq C0 (pc := 705) (tgt := 1282) dL_law_705 (by decide) (fun hc => ?_) (fun hc => ?_)
        · replace h := (X_if h).1 hc
          exact j_J.wide (g' := (g.1 + 6, g.2 + 1100)) ⟨by show _ ≤ _; omega, by show _ ≤ _; omega⟩ (j_J.wq (hk1282 v1 v2 v3 v4 M33 h) (And.intro rfl (And.intro rfl (And.intro rfl (And.intro rfl (And.intro rfl (trivial)))))))
        · replace h := (X_if h).2 hc
          refine j_iconst C0 (pc := 708) dL_law_708 (v := (0 : Int32)) (by decide) ?_
          exact (j_ΦL_no h).elim
      replace h := (X_if h).2 hc
      have hn15 : ¬ v11 = Int32.ofInt (15) := hc
      by_cases hc : v11 = (16 : Int32)
      · replace h := (X_if h).1 hc
        refine j_tableIn C0 (pc := 40) (off := 670) (tgt := 710) dL_law_40 (by rw [hc]; decide) (by rw [hc]; decide) (by rw [hc]; decide) (by decide) ?_
        refine j_aload_n C0 (pc := 710) dL_law_710 rfl ?_
        refine j_aload_n C0 (pc := 711) dL_law_711 rfl ?_
        refine j_iload C0 (pc := 712) dL_law_712 rfl ?_
        refine j_iconst C0 (pc := 714) dL_law_714 (v := (1 : Int32)) (by decide) ?_
        refine j_iadd C0 (pc := 715) dL_law_715 ?_
        refine X_sld C0 HS (pc := 716) dL_law_716 h (fun v86 h => ?_)
        refine j_aload_n C0 (pc := 717) dL_law_717 rfl ?_
        refine j_iload C0 (pc := 718) dL_law_718 rfl ?_
        refine j_iconst C0 (pc := 720) dL_law_720 (v := (2 : Int32)) (by decide) ?_
        refine j_iadd C0 (pc := 721) dL_law_721 ?_
        refine X_sld C0 HS (pc := 722) dL_law_722 h (fun v87 h => ?_)
        refine X_cV C0 (pc := 723) (e' := e_I) (as := [.int v86, .int v87]) (rest := []) (s' := fun w => .int w :: []) (g' := (g.1 + 0, g.2 + 0)) v_Law_91_9 (fun Ψ hΨ => K_X11_same v1 v86 v87 M Ψ hΨ) rfl rfl (fun _ => rfl) (by decide) (by show _ ≤ _ ∧ _ ≤ _; omega) rfl (Nat.le_of_ble_eq_true rfl) dL_law_723 h (fun v88 M34 h => ?_)
        refine j_aload_n C0 (pc := 726) dL_law_726 rfl ?_
        refine j_aload_n C0 (pc := 727) dL_law_727 rfl ?_
        refine j_iload C0 (pc := 728) dL_law_728 rfl ?_
        refine j_iconst C0 (pc := 730) dL_law_730 (v := (1 : Int32)) (by decide) ?_
        refine j_iadd C0 (pc := 731) dL_law_731 ?_
        refine X_sld C0 HS (pc := 732) dL_law_732 h (fun v89 h => ?_)
        refine j_aload_n C0 (pc := 733) dL_law_733 rfl ?_
        refine j_iload C0 (pc := 734) dL_law_734 rfl ?_
        refine j_iconst C0 (pc := 736) dL_law_736 (v := (2 : Int32)) (by decide) ?_
        refine j_iadd C0 (pc := 737) dL_law_737 ?_
        refine X_sld C0 HS (pc := 738) dL_law_738 h (fun v90 h => ?_)
        refine X_cV C0 (pc := 739) (e' := e_I) (as := [.int v89, .int v90]) (rest := [.int v88]) (s' := fun w => .int w :: [.int v88]) (g' := (g.1 + 0, g.2 + 0)) v_Law_94_10 (fun Ψ hΨ => K_X12_same v2 v89 v90 M34 Ψ hΨ) rfl rfl (fun _ => rfl) (by decide) (by show _ ≤ _ ∧ _ ≤ _; omega) rfl (Nat.le_of_ble_eq_true rfl) dL_law_739 h (fun v91 M35 h => ?_)
        refine j_icmp_eq C0 (pc := 742) (tgt := 1282) dL_law_742 (by decide) (fun hc => ?_) (fun hc => ?_)
        · replace h := (X_if h).1 hc
          exact j_J.wide (g' := (g.1 + 6, g.2 + 1100)) ⟨by show _ ≤ _; omega, by show _ ≤ _; omega⟩ (j_J.wq (hk1282 v1 v2 v3 v4 M35 h) (And.intro rfl (And.intro rfl (And.intro rfl (And.intro rfl (And.intro rfl (trivial)))))))
        · replace h := (X_if h).2 hc
          refine j_iconst C0 (pc := 745) dL_law_745 (v := (0 : Int32)) (by decide) ?_
          exact (j_ΦL_no h).elim
      replace h := (X_if h).2 hc
      have hn16 : ¬ v11 = Int32.ofInt (16) := hc
      by_cases hc : v11 = (17 : Int32)
      · replace h := (X_if h).1 hc
        refine j_tableIn C0 (pc := 40) (off := 707) (tgt := 747) dL_law_40 (by rw [hc]; decide) (by rw [hc]; decide) (by rw [hc]; decide) (by decide) ?_
        refine j_aload_n C0 (pc := 747) dL_law_747 rfl ?_
        refine X_cV C0 (pc := 748) (e' := e_I) (as := []) (rest := []) (s' := fun w => .int w :: []) (g' := (g.1 + 0, g.2 + 0)) v_Law_95_9 (fun Ψ hΨ => K_X11_asked v1 M Ψ hΨ) rfl rfl (fun _ => rfl) (by decide) (by show _ ≤ _ ∧ _ ≤ _; omega) rfl (Nat.le_of_ble_eq_true rfl) dL_law_748 h (fun v92 M36 h => ?_)
        refine j_aload_n C0 (pc := 751) dL_law_751 rfl ?_
        refine X_cV C0 (pc := 752) (e' := e_I) (as := []) (rest := [.int v92]) (s' := fun w => .int w :: [.int v92]) (g' := (g.1 + 0, g.2 + 0)) v_Law_98_10 (fun Ψ hΨ => K_X12_asked v2 M36 Ψ hΨ) rfl rfl (fun _ => rfl) (by decide) (by show _ ≤ _ ∧ _ ≤ _; omega) rfl (Nat.le_of_ble_eq_true rfl) dL_law_752 h (fun v93 M37 h => ?_)
        refine j_icmp_eq C0 (pc := 755) (tgt := 1282) dL_law_755 (by decide) (fun hc => ?_) (fun hc => ?_)
        · replace h := (X_if h).1 hc
          exact j_J.wide (g' := (g.1 + 6, g.2 + 1100)) ⟨by show _ ≤ _; omega, by show _ ≤ _; omega⟩ (j_J.wq (hk1282 v1 v2 v3 v4 M37 h) (And.intro rfl (And.intro rfl (And.intro rfl (And.intro rfl (And.intro rfl (trivial)))))))
        · replace h := (X_if h).2 hc
          refine j_iconst C0 (pc := 758) dL_law_758 (v := (0 : Int32)) (by decide) ?_
          exact (j_ΦL_no h).elim
      replace h := (X_if h).2 hc
      have hn17 : ¬ v11 = Int32.ofInt (17) := hc
      by_cases hc : v11 = (18 : Int32)
      · replace h := (X_if h).1 hc
        refine j_tableIn C0 (pc := 40) (off := 720) (tgt := 760) dL_law_40 (by rw [hc]; decide) (by rw [hc]; decide) (by rw [hc]; decide) (by decide) ?_
        refine j_aload_n C0 (pc := 760) dL_law_760 rfl ?_
        refine j_aload_n C0 (pc := 761) dL_law_761 rfl ?_
        refine j_iload C0 (pc := 762) dL_law_762 rfl ?_
        refine j_iconst C0 (pc := 764) dL_law_764 (v := (1 : Int32)) (by decide) ?_
        refine j_iadd C0 (pc := 765) dL_law_765 ?_
        refine X_sld C0 HS (pc := 766) dL_law_766 h (fun v94 h => ?_)
        refine j_aload_n C0 (pc := 767) dL_law_767 rfl ?_
        refine j_iload C0 (pc := 768) dL_law_768 rfl ?_
        refine j_iconst C0 (pc := 770) dL_law_770 (v := (2 : Int32)) (by decide) ?_
        refine j_iadd C0 (pc := 771) dL_law_771 ?_
        refine X_sld C0 HS (pc := 772) dL_law_772 h (fun v95 h => ?_)
        refine X_cV C0 (pc := 773) (e' := e_I) (as := [.int v94, .int v95]) (rest := []) (s' := fun w => .int w :: []) (g' := (g.1 + 0, g.2 + 0)) v_Law_99_9 (fun Ψ hΨ => K_X11_sure v1 v94 v95 M Ψ hΨ) rfl rfl (fun _ => rfl) (by decide) (by show _ ≤ _ ∧ _ ≤ _; omega) rfl (Nat.le_of_ble_eq_true rfl) dL_law_773 h (fun v96 M38 h => ?_)
        refine j_aload_n C0 (pc := 776) dL_law_776 rfl ?_
        refine j_aload_n C0 (pc := 777) dL_law_777 rfl ?_
        refine j_iload C0 (pc := 778) dL_law_778 rfl ?_
        refine j_iconst C0 (pc := 780) dL_law_780 (v := (1 : Int32)) (by decide) ?_
        refine j_iadd C0 (pc := 781) dL_law_781 ?_
        refine X_sld C0 HS (pc := 782) dL_law_782 h (fun v97 h => ?_)
        refine j_aload_n C0 (pc := 783) dL_law_783 rfl ?_
        refine j_iload C0 (pc := 784) dL_law_784 rfl ?_
        refine j_iconst C0 (pc := 786) dL_law_786 (v := (2 : Int32)) (by decide) ?_
        refine j_iadd C0 (pc := 787) dL_law_787 ?_
        refine X_sld C0 HS (pc := 788) dL_law_788 h (fun v98 h => ?_)
        refine X_cV C0 (pc := 789) (e' := e_I) (as := [.int v97, .int v98]) (rest := [.int v96]) (s' := fun w => .int w :: [.int v96]) (g' := (g.1 + 0, g.2 + 0)) v_Law_102_10 (fun Ψ hΨ => K_X12_sure v2 v97 v98 M38 Ψ hΨ) rfl rfl (fun _ => rfl) (by decide) (by show _ ≤ _ ∧ _ ≤ _; omega) rfl (Nat.le_of_ble_eq_true rfl) dL_law_789 h (fun v99 M39 h => ?_)
        refine j_icmp_eq C0 (pc := 792) (tgt := 1282) dL_law_792 (by decide) (fun hc => ?_) (fun hc => ?_)
        · replace h := (X_if h).1 hc
          exact j_J.wide (g' := (g.1 + 6, g.2 + 1100)) ⟨by show _ ≤ _; omega, by show _ ≤ _; omega⟩ (j_J.wq (hk1282 v1 v2 v3 v4 M39 h) (And.intro rfl (And.intro rfl (And.intro rfl (And.intro rfl (And.intro rfl (trivial)))))))
        · replace h := (X_if h).2 hc
          refine j_iconst C0 (pc := 795) dL_law_795 (v := (0 : Int32)) (by decide) ?_
          exact (j_ΦL_no h).elim
      replace h := (X_if h).2 hc
      have hn18 : ¬ v11 = Int32.ofInt (18) := hc
      by_cases hc : v11 = (19 : Int32)
      · replace h := (X_if h).1 hc
        refine j_tableIn C0 (pc := 40) (off := 757) (tgt := 797) dL_law_40 (by rw [hc]; decide) (by rw [hc]; decide) (by rw [hc]; decide) (by decide) ?_
        refine j_aload_n C0 (pc := 797) dL_law_797 rfl ?_
        refine X_cV C0 (pc := 798) (e' := e_I) (as := []) (rest := []) (s' := fun w => .int w :: []) (g' := (g.1 + 0, g.2 + 0)) v_Law_103_9 (fun Ψ hΨ => K_X11_clash v1 M Ψ hΨ) rfl rfl (fun _ => rfl) (by decide) (by show _ ≤ _ ∧ _ ≤ _; omega) rfl (Nat.le_of_ble_eq_true rfl) dL_law_798 h (fun v100 M40 h => ?_)
        refine j_aload_n C0 (pc := 801) dL_law_801 rfl ?_
        refine X_cV C0 (pc := 802) (e' := e_I) (as := []) (rest := [.int v100]) (s' := fun w => .int w :: [.int v100]) (g' := (g.1 + 0, g.2 + 0)) v_Law_106_10 (fun Ψ hΨ => K_X12_clash v2 M40 Ψ hΨ) rfl rfl (fun _ => rfl) (by decide) (by show _ ≤ _ ∧ _ ≤ _; omega) rfl (Nat.le_of_ble_eq_true rfl) dL_law_802 h (fun v101 M41 h => ?_)
        refine j_icmp_eq C0 (pc := 805) (tgt := 1282) dL_law_805 (by decide) (fun hc => ?_) (fun hc => ?_)
        · replace h := (X_if h).1 hc
          exact j_J.wide (g' := (g.1 + 6, g.2 + 1100)) ⟨by show _ ≤ _; omega, by show _ ≤ _; omega⟩ (j_J.wq (hk1282 v1 v2 v3 v4 M41 h) (And.intro rfl (And.intro rfl (And.intro rfl (And.intro rfl (And.intro rfl (trivial)))))))
        · replace h := (X_if h).2 hc
          refine j_iconst C0 (pc := 808) dL_law_808 (v := (0 : Int32)) (by decide) ?_
          exact (j_ΦL_no h).elim
      replace h := (X_if h).2 hc
      have hn19 : ¬ v11 = Int32.ofInt (19) := hc
      by_cases hc : v11 = (20 : Int32)
      · replace h := (X_if h).1 hc
        refine j_tableIn C0 (pc := 40) (off := 770) (tgt := 810) dL_law_40 (by rw [hc]; decide) (by rw [hc]; decide) (by rw [hc]; decide) (by decide) ?_
        refine j_aload_n C0 (pc := 810) dL_law_810 rfl ?_
        refine j_aload_n C0 (pc := 811) dL_law_811 rfl ?_
        refine j_iload C0 (pc := 812) dL_law_812 rfl ?_
        refine j_iconst C0 (pc := 814) dL_law_814 (v := (1 : Int32)) (by decide) ?_
        refine j_iadd C0 (pc := 815) dL_law_815 ?_
        refine X_sld C0 HS (pc := 816) dL_law_816 h (fun v102 h => ?_)
        refine j_aload_n C0 (pc := 817) dL_law_817 rfl ?_
        refine j_iload C0 (pc := 818) dL_law_818 rfl ?_
        refine j_iconst C0 (pc := 820) dL_law_820 (v := (2 : Int32)) (by decide) ?_
        refine j_iadd C0 (pc := 821) dL_law_821 ?_
        refine X_sld C0 HS (pc := 822) dL_law_822 h (fun v103 h => ?_)
        refine X_cV C0 (pc := 823) (e' := e_I) (as := [.int v102, .int v103]) (rest := []) (s' := fun w => .int w :: []) (g' := (g.1 + 0, g.2 + 0)) v_Law_107_9 (fun Ψ hΨ => K_X11_shortest v1 v102 v103 M Ψ hΨ) rfl rfl (fun _ => rfl) (by decide) (by show _ ≤ _ ∧ _ ≤ _; omega) rfl (Nat.le_of_ble_eq_true rfl) dL_law_823 h (fun v104 M42 h => ?_)
        refine j_aload_n C0 (pc := 826) dL_law_826 rfl ?_
        refine j_aload_n C0 (pc := 827) dL_law_827 rfl ?_
        refine j_iload C0 (pc := 828) dL_law_828 rfl ?_
        refine j_iconst C0 (pc := 830) dL_law_830 (v := (1 : Int32)) (by decide) ?_
        refine j_iadd C0 (pc := 831) dL_law_831 ?_
        refine X_sld C0 HS (pc := 832) dL_law_832 h (fun v105 h => ?_)
        refine j_aload_n C0 (pc := 833) dL_law_833 rfl ?_
        refine j_iload C0 (pc := 834) dL_law_834 rfl ?_
        refine j_iconst C0 (pc := 836) dL_law_836 (v := (2 : Int32)) (by decide) ?_
        refine j_iadd C0 (pc := 837) dL_law_837 ?_
        refine X_sld C0 HS (pc := 838) dL_law_838 h (fun v106 h => ?_)
        refine X_cV C0 (pc := 839) (e' := e_I) (as := [.int v105, .int v106]) (rest := [.int v104]) (s' := fun w => .int w :: [.int v104]) (g' := (g.1 + 0, g.2 + 0)) v_Law_110_10 (fun Ψ hΨ => K_X12_shortest v2 v105 v106 M42 Ψ hΨ) rfl rfl (fun _ => rfl) (by decide) (by show _ ≤ _ ∧ _ ≤ _; omega) rfl (Nat.le_of_ble_eq_true rfl) dL_law_839 h (fun v107 M43 h => ?_)
        refine j_icmp_eq C0 (pc := 842) (tgt := 1282) dL_law_842 (by decide) (fun hc => ?_) (fun hc => ?_)
        · replace h := (X_if h).1 hc
          exact j_J.wide (g' := (g.1 + 6, g.2 + 1100)) ⟨by show _ ≤ _; omega, by show _ ≤ _; omega⟩ (j_J.wq (hk1282 v1 v2 v3 v4 M43 h) (And.intro rfl (And.intro rfl (And.intro rfl (And.intro rfl (And.intro rfl (trivial)))))))
        · replace h := (X_if h).2 hc
          refine j_iconst C0 (pc := 845) dL_law_845 (v := (0 : Int32)) (by decide) ?_
          exact (j_ΦL_no h).elim
      replace h := (X_if h).2 hc
      have hn20 : ¬ v11 = Int32.ofInt (20) := hc
      by_cases hc : v11 = (21 : Int32)
      · replace h := (X_if h).1 hc
        refine j_tableIn C0 (pc := 40) (off := 807) (tgt := 847) dL_law_40 (by rw [hc]; decide) (by rw [hc]; decide) (by rw [hc]; decide) (by decide) ?_
        refine j_aload_n C0 (pc := 847) dL_law_847 rfl ?_
        refine j_aload_n C0 (pc := 848) dL_law_848 rfl ?_
        refine j_iload C0 (pc := 849) dL_law_849 rfl ?_
        refine j_iconst C0 (pc := 851) dL_law_851 (v := (1 : Int32)) (by decide) ?_
        refine j_iadd C0 (pc := 852) dL_law_852 ?_
        refine X_sld C0 HS (pc := 853) dL_law_853 h (fun v108 h => ?_)
        refine j_aload_n C0 (pc := 854) dL_law_854 rfl ?_
        refine j_iload C0 (pc := 855) dL_law_855 rfl ?_
        refine j_iconst C0 (pc := 857) dL_law_857 (v := (2 : Int32)) (by decide) ?_
        refine j_iadd C0 (pc := 858) dL_law_858 ?_
        refine X_sld C0 HS (pc := 859) dL_law_859 h (fun v109 h => ?_)
        refine X_cV C0 (pc := 860) (e' := e_I) (as := [.int v108, .int v109]) (rest := []) (s' := fun w => .int w :: []) (g' := (g.1 + 0, g.2 + 0)) v_Law_111_9 (fun Ψ hΨ => K_X11_two v1 v108 v109 M Ψ hΨ) rfl rfl (fun _ => rfl) (by decide) (by show _ ≤ _ ∧ _ ≤ _; omega) rfl (Nat.le_of_ble_eq_true rfl) dL_law_860 h (fun v110 M44 h => ?_)
        refine j_aload_n C0 (pc := 863) dL_law_863 rfl ?_
        refine j_aload_n C0 (pc := 864) dL_law_864 rfl ?_
        refine j_iload C0 (pc := 865) dL_law_865 rfl ?_
        refine j_iconst C0 (pc := 867) dL_law_867 (v := (1 : Int32)) (by decide) ?_
        refine j_iadd C0 (pc := 868) dL_law_868 ?_
        refine X_sld C0 HS (pc := 869) dL_law_869 h (fun v111 h => ?_)
        refine j_aload_n C0 (pc := 870) dL_law_870 rfl ?_
        refine j_iload C0 (pc := 871) dL_law_871 rfl ?_
        refine j_iconst C0 (pc := 873) dL_law_873 (v := (2 : Int32)) (by decide) ?_
        refine j_iadd C0 (pc := 874) dL_law_874 ?_
        refine X_sld C0 HS (pc := 875) dL_law_875 h (fun v112 h => ?_)
        refine X_cV C0 (pc := 876) (e' := e_I) (as := [.int v111, .int v112]) (rest := [.int v110]) (s' := fun w => .int w :: [.int v110]) (g' := (g.1 + 0, g.2 + 0)) v_Law_114_10 (fun Ψ hΨ => K_X12_two v2 v111 v112 M44 Ψ hΨ) rfl rfl (fun _ => rfl) (by decide) (by show _ ≤ _ ∧ _ ≤ _; omega) rfl (Nat.le_of_ble_eq_true rfl) dL_law_876 h (fun v113 M45 h => ?_)
        refine j_icmp_eq C0 (pc := 879) (tgt := 1282) dL_law_879 (by decide) (fun hc => ?_) (fun hc => ?_)
        · replace h := (X_if h).1 hc
          exact j_J.wide (g' := (g.1 + 6, g.2 + 1100)) ⟨by show _ ≤ _; omega, by show _ ≤ _; omega⟩ (j_J.wq (hk1282 v1 v2 v3 v4 M45 h) (And.intro rfl (And.intro rfl (And.intro rfl (And.intro rfl (And.intro rfl (trivial)))))))
        · replace h := (X_if h).2 hc
          refine j_iconst C0 (pc := 882) dL_law_882 (v := (0 : Int32)) (by decide) ?_
          exact (j_ΦL_no h).elim
      replace h := (X_if h).2 hc
      have hn21 : ¬ v11 = Int32.ofInt (21) := hc
      by_cases hc : v11 = (22 : Int32)
      · replace h := (X_if h).1 hc
        refine j_tableIn C0 (pc := 40) (off := 844) (tgt := 884) dL_law_40 (by rw [hc]; decide) (by rw [hc]; decide) (by rw [hc]; decide) (by decide) ?_
        refine j_aload_n C0 (pc := 884) dL_law_884 rfl ?_
        refine j_aload_n C0 (pc := 885) dL_law_885 rfl ?_
        refine j_iload C0 (pc := 886) dL_law_886 rfl ?_
        refine j_iconst C0 (pc := 888) dL_law_888 (v := (1 : Int32)) (by decide) ?_
        refine j_iadd C0 (pc := 889) dL_law_889 ?_
        refine X_sld C0 HS (pc := 890) dL_law_890 h (fun v114 h => ?_)
        refine X_cV C0 (pc := 891) (e' := e_I) (as := [.int v114]) (rest := []) (s' := fun w => .int w :: []) (g' := (g.1 + 0, g.2 + 0)) v_Law_115_9 (fun Ψ hΨ => K_X11_riddle v1 v114 M Ψ hΨ) rfl rfl (fun _ => rfl) (by decide) (by show _ ≤ _ ∧ _ ≤ _; omega) rfl (Nat.le_of_ble_eq_true rfl) dL_law_891 h (fun v115 M46 h => ?_)
        refine j_aload_n C0 (pc := 894) dL_law_894 rfl ?_
        refine j_aload_n C0 (pc := 895) dL_law_895 rfl ?_
        refine j_iload C0 (pc := 896) dL_law_896 rfl ?_
        refine j_iconst C0 (pc := 898) dL_law_898 (v := (1 : Int32)) (by decide) ?_
        refine j_iadd C0 (pc := 899) dL_law_899 ?_
        refine X_sld C0 HS (pc := 900) dL_law_900 h (fun v116 h => ?_)
        refine X_cV C0 (pc := 901) (e' := e_I) (as := [.int v116]) (rest := [.int v115]) (s' := fun w => .int w :: [.int v115]) (g' := (g.1 + 0, g.2 + 0)) v_Law_118_10 (fun Ψ hΨ => K_X12_riddle v2 v116 M46 Ψ hΨ) rfl rfl (fun _ => rfl) (by decide) (by show _ ≤ _ ∧ _ ≤ _; omega) rfl (Nat.le_of_ble_eq_true rfl) dL_law_901 h (fun v117 M47 h => ?_)
        refine j_icmp_eq C0 (pc := 904) (tgt := 1282) dL_law_904 (by decide) (fun hc => ?_) (fun hc => ?_)
        · replace h := (X_if h).1 hc
          exact j_J.wide (g' := (g.1 + 6, g.2 + 1100)) ⟨by show _ ≤ _; omega, by show _ ≤ _; omega⟩ (j_J.wq (hk1282 v1 v2 v3 v4 M47 h) (And.intro rfl (And.intro rfl (And.intro rfl (And.intro rfl (And.intro rfl (trivial)))))))
        · replace h := (X_if h).2 hc
          refine j_iconst C0 (pc := 907) dL_law_907 (v := (0 : Int32)) (by decide) ?_
          exact (j_ΦL_no h).elim
      replace h := (X_if h).2 hc
      have hn22 : ¬ v11 = Int32.ofInt (22) := hc
      by_cases hc : v11 = (23 : Int32)
      · replace h := (X_if h).1 hc
        refine j_tableIn C0 (pc := 40) (off := 869) (tgt := 909) dL_law_40 (by rw [hc]; decide) (by rw [hc]; decide) (by rw [hc]; decide) (by decide) ?_
        refine j_aload_n C0 (pc := 909) dL_law_909 rfl ?_
        refine j_aload_n C0 (pc := 910) dL_law_910 rfl ?_
        refine j_iload C0 (pc := 911) dL_law_911 rfl ?_
        refine j_iconst C0 (pc := 913) dL_law_913 (v := (1 : Int32)) (by decide) ?_
        refine j_iadd C0 (pc := 914) dL_law_914 ?_
        refine X_sld C0 HS (pc := 915) dL_law_915 h (fun v118 h => ?_)
        refine j_aload_n C0 (pc := 916) dL_law_916 rfl ?_
        refine X_rings C0 HL (pc := 917) (st := []) (g' := (g.1 + 1, g.2 + 6)) (by decide) (by show _ ≤ _ ∧ _ ≤ _; omega) rfl (Nat.le_of_ble_eq_true rfl) dL_law_917 h (fun v119 M48 h => ?_)
        refine j_istore C0 (pc := 920) dL_law_920 (Nat.le_of_ble_eq_true rfl) ?_
        show j_J X 7 922 [some (.ref (1000000 + 25)), some (.ref v1), some (.ref v2), some (.ref v3), some (.int v4), some (.int v119), none] [] (g.1 + 1, g.2 + 6) M48
        refine j_aload_n C0 (pc := 922) dL_law_922 rfl ?_
        refine j_aload_n C0 (pc := 923) dL_law_923 rfl ?_
        refine j_iload C0 (pc := 924) dL_law_924 rfl ?_
        refine j_iconst C0 (pc := 926) dL_law_926 (v := (1 : Int32)) (by decide) ?_
        refine j_iadd C0 (pc := 927) dL_law_927 ?_
        refine X_sld C0 HS (pc := 928) dL_law_928 h (fun v120 h => ?_)
        refine X_cV C0 (pc := 929) (e' := e_I) (as := [.int v120]) (rest := []) (s' := fun w => .int w :: []) (g' := (g.1 + 1, g.2 + 6)) v_Law_124_10 (fun Ψ hΨ => K_X12_rings v2 v120 M48 Ψ hΨ) rfl rfl (fun _ => rfl) (by decide) (by show _ ≤ _ ∧ _ ≤ _; omega) rfl (Nat.le_of_ble_eq_true rfl) dL_law_929 h (fun v121 M49 h => ?_)
        refine j_istore C0 (pc := 932) dL_law_932 (Nat.le_of_ble_eq_true rfl) ?_
        show j_J X 7 934 [some (.ref (1000000 + 25)), some (.ref v1), some (.ref v2), some (.ref v3), some (.int v4), some (.int v119), some (.int v121)] [] (g.1 + 1, g.2 + 6) M49
        refine j_aload_n C0 (pc := 934) dL_law_934 rfl ?_
        refine X_cV C0 (pc := 935) (e' := e_I) (as := []) (rest := []) (s' := fun w => .int w :: []) (g' := (g.1 + 1, g.2 + 6)) v_Law_125_10 (fun Ψ hΨ => K_X12_thrown v2 M49 Ψ hΨ) rfl rfl (fun _ => rfl) (by decide) (by show _ ≤ _ ∧ _ ≤ _; omega) rfl (Nat.le_of_ble_eq_true rfl) dL_law_935 h (fun v122 M50 h => ?_)
        refine j_iload C0 (pc := 938) dL_law_938 rfl ?_
        refine j_icmp_eq C0 (pc := 940) (tgt := 945) dL_law_940 (by decide) (fun hc => ?_) (fun hc => ?_)
        · replace h := (X_if h).1 hc
          refine X_join (fun (kj : Nat → Nat → Nat → Int32 → m_M → Option (Int32 × m_M)) => ∀ (p0 : Nat) (p1 : Nat) (p2 : Nat) (p3 : Int32) (M : m_M), m_ok e_I j_ΦL (kj p0 p1 p2 p3 M) → j_J X 7 962 [some (.ref (1000000 + 25)), some (.ref p0), some (.ref p1), some (.ref p2), some (.int p3), none, none] [] (g.1 + 6, g.2 + 1100) M) h (fun v123 v124 v125 v126 M51 h => ?_) (fun k962 hk962 h => ?_)
          · refine j_goto C0 (pc := 962) (tgt := 1282) dL_law_962 (by decide) ?_
            exact j_J.wide (g' := (g.1 + 6, g.2 + 1100)) ⟨by show _ ≤ _; omega, by show _ ≤ _; omega⟩ (j_J.wq (hk1282 v123 v124 v125 v126 M51 h) (And.intro rfl (And.intro rfl (And.intro rfl (And.intro rfl (And.intro rfl (trivial)))))))
          refine j_iload C0 (pc := 945) dL_law_945 rfl ?_
          refine j_if_ne C0 (pc := 947) (tgt := 962) dL_law_947 (by decide) (fun hc => ?_) (fun hc => ?_)
          · replace h := (X_if h).2 hc
            exact j_J.wide (g' := (g.1 + 6, g.2 + 1100)) ⟨by show _ ≤ _; omega, by show _ ≤ _; omega⟩ (j_J.wq (hk962 v1 v2 v3 v4 M50 h) (And.intro rfl (And.intro rfl (And.intro rfl (And.intro rfl (And.intro rfl (trivial)))))))
          replace h := (X_if h).1 hc
          refine j_aload_n C0 (pc := 950) dL_law_950 rfl ?_
          refine j_iconst C0 (pc := 951) dL_law_951 (v := (0 : Int32)) (by decide) ?_
          refine X_lald C0 (pc := 952) dL_law_952 h (fun v127 h => ?_)
          refine j_iload C0 (pc := 953) dL_law_953 rfl ?_
          refine j_i2l C0 (pc := 955) dL_law_955 (v := v121.toInt64) rfl ?_
          refine j_lcmp C0 (pc := 956) dL_law_956 ?_
          refine j_if_eq C0 (pc := 957) (tgt := 962) dL_law_957 (by decide) (fun hc => ?_) (fun hc => ?_)
          · replace h := (X_if h).1 hc
            exact j_J.wide (g' := (g.1 + 6, g.2 + 1100)) ⟨by show _ ≤ _; omega, by show _ ≤ _; omega⟩ (j_J.wq (hk962 v1 v2 v3 v4 M50 h) (And.intro rfl (And.intro rfl (And.intro rfl (And.intro rfl (And.intro rfl (trivial)))))))
          · replace h := (X_if h).2 hc
            refine j_iconst C0 (pc := 960) dL_law_960 (v := (0 : Int32)) (by decide) ?_
            exact (j_ΦL_no h).elim
        · replace h := (X_if h).2 hc
          refine j_iconst C0 (pc := 943) dL_law_943 (v := (0 : Int32)) (by decide) ?_
          exact (j_ΦL_no h).elim
      replace h := (X_if h).2 hc
      have hn23 : ¬ v11 = Int32.ofInt (23) := hc
      by_cases hc : v11 = (24 : Int32)
      · replace h := (X_if h).1 hc
        refine j_tableIn C0 (pc := 40) (off := 925) (tgt := 965) dL_law_40 (by rw [hc]; decide) (by rw [hc]; decide) (by rw [hc]; decide) (by decide) ?_
        refine j_aload_n C0 (pc := 965) dL_law_965 rfl ?_
        refine j_aload_n C0 (pc := 966) dL_law_966 rfl ?_
        refine j_iload C0 (pc := 967) dL_law_967 rfl ?_
        refine j_iconst C0 (pc := 969) dL_law_969 (v := (1 : Int32)) (by decide) ?_
        refine j_iadd C0 (pc := 970) dL_law_970 ?_
        refine X_sld C0 HS (pc := 971) dL_law_971 h (fun v128 h => ?_)
        refine X_cV C0 (pc := 972) (e' := e_I) (as := [.int v128]) (rest := []) (s' := fun w => .int w :: []) (g' := (g.1 + 0, g.2 + 0)) v_Law_128_9 (fun Ψ hΨ => K_X11_rests v1 v128 M Ψ hΨ) rfl rfl (fun _ => rfl) (by decide) (by show _ ≤ _ ∧ _ ≤ _; omega) rfl (Nat.le_of_ble_eq_true rfl) dL_law_972 h (fun v129 M52 h => ?_)
        refine j_aload_n C0 (pc := 975) dL_law_975 rfl ?_
        refine j_aload_n C0 (pc := 976) dL_law_976 rfl ?_
        refine j_iload C0 (pc := 977) dL_law_977 rfl ?_
        refine j_iconst C0 (pc := 979) dL_law_979 (v := (1 : Int32)) (by decide) ?_
        refine j_iadd C0 (pc := 980) dL_law_980 ?_
        refine X_sld C0 HS (pc := 981) dL_law_981 h (fun v130 h => ?_)
        refine X_cV C0 (pc := 982) (e' := e_I) (as := [.int v130]) (rest := [.int v129]) (s' := fun w => .int w :: [.int v129]) (g' := (g.1 + 0, g.2 + 0)) v_Law_131_10 (fun Ψ hΨ => K_X12_rests v2 v130 M52 Ψ hΨ) rfl rfl (fun _ => rfl) (by decide) (by show _ ≤ _ ∧ _ ≤ _; omega) rfl (Nat.le_of_ble_eq_true rfl) dL_law_982 h (fun v131 M53 h => ?_)
        refine j_icmp_eq C0 (pc := 985) (tgt := 1282) dL_law_985 (by decide) (fun hc => ?_) (fun hc => ?_)
        · replace h := (X_if h).1 hc
          exact j_J.wide (g' := (g.1 + 6, g.2 + 1100)) ⟨by show _ ≤ _; omega, by show _ ≤ _; omega⟩ (j_J.wq (hk1282 v1 v2 v3 v4 M53 h) (And.intro rfl (And.intro rfl (And.intro rfl (And.intro rfl (And.intro rfl (trivial)))))))
        · replace h := (X_if h).2 hc
          refine j_iconst C0 (pc := 988) dL_law_988 (v := (0 : Int32)) (by decide) ?_
          exact (j_ΦL_no h).elim
      replace h := (X_if h).2 hc
      have hn24 : ¬ v11 = Int32.ofInt (24) := hc
      by_cases hc : v11 = (25 : Int32)
      · replace h := (X_if h).1 hc
        refine j_tableIn C0 (pc := 40) (off := 950) (tgt := 990) dL_law_40 (by rw [hc]; decide) (by rw [hc]; decide) (by rw [hc]; decide) (by decide) ?_
        refine j_aload_n C0 (pc := 990) dL_law_990 rfl ?_
        refine j_aload_n C0 (pc := 991) dL_law_991 rfl ?_
        refine j_iload C0 (pc := 992) dL_law_992 rfl ?_
        refine j_iconst C0 (pc := 994) dL_law_994 (v := (1 : Int32)) (by decide) ?_
        refine j_iadd C0 (pc := 995) dL_law_995 ?_
        refine X_sld C0 HS (pc := 996) dL_law_996 h (fun v132 h => ?_)
        refine j_aload_n C0 (pc := 997) dL_law_997 rfl ?_
        refine j_iload C0 (pc := 998) dL_law_998 rfl ?_
        refine j_iconst C0 (pc := 1000) dL_law_1000 (v := (2 : Int32)) (by decide) ?_
        refine j_iadd C0 (pc := 1001) dL_law_1001 ?_
        refine X_sld C0 HS (pc := 1002) dL_law_1002 h (fun v133 h => ?_)
        refine X_cV C0 (pc := 1003) (e' := e_I) (as := [.int v132, .int v133]) (rest := []) (s' := fun w => .int w :: []) (g' := (g.1 + 0, g.2 + 0)) v_Law_132_9 (fun Ψ hΨ => K_X11_sayable v1 v132 v133 M Ψ hΨ) rfl rfl (fun _ => rfl) (by decide) (by show _ ≤ _ ∧ _ ≤ _; omega) rfl (Nat.le_of_ble_eq_true rfl) dL_law_1003 h (fun v134 M54 h => ?_)
        refine j_aload_n C0 (pc := 1006) dL_law_1006 rfl ?_
        refine j_aload_n C0 (pc := 1007) dL_law_1007 rfl ?_
        refine j_iload C0 (pc := 1008) dL_law_1008 rfl ?_
        refine j_iconst C0 (pc := 1010) dL_law_1010 (v := (1 : Int32)) (by decide) ?_
        refine j_iadd C0 (pc := 1011) dL_law_1011 ?_
        refine X_sld C0 HS (pc := 1012) dL_law_1012 h (fun v135 h => ?_)
        refine j_aload_n C0 (pc := 1013) dL_law_1013 rfl ?_
        refine j_iload C0 (pc := 1014) dL_law_1014 rfl ?_
        refine j_iconst C0 (pc := 1016) dL_law_1016 (v := (2 : Int32)) (by decide) ?_
        refine j_iadd C0 (pc := 1017) dL_law_1017 ?_
        refine X_sld C0 HS (pc := 1018) dL_law_1018 h (fun v136 h => ?_)
        refine X_cV C0 (pc := 1019) (e' := e_I) (as := [.int v135, .int v136]) (rest := [.int v134]) (s' := fun w => .int w :: [.int v134]) (g' := (g.1 + 0, g.2 + 0)) v_Law_135_10 (fun Ψ hΨ => K_X12_sayable v2 v135 v136 M54 Ψ hΨ) rfl rfl (fun _ => rfl) (by decide) (by show _ ≤ _ ∧ _ ≤ _; omega) rfl (Nat.le_of_ble_eq_true rfl) dL_law_1019 h (fun v137 M55 h => ?_)
        refine j_icmp_eq C0 (pc := 1022) (tgt := 1282) dL_law_1022 (by decide) (fun hc => ?_) (fun hc => ?_)
        · replace h := (X_if h).1 hc
          exact j_J.wide (g' := (g.1 + 6, g.2 + 1100)) ⟨by show _ ≤ _; omega, by show _ ≤ _; omega⟩ (j_J.wq (hk1282 v1 v2 v3 v4 M55 h) (And.intro rfl (And.intro rfl (And.intro rfl (And.intro rfl (And.intro rfl (trivial)))))))
        · replace h := (X_if h).2 hc
          refine j_iconst C0 (pc := 1025) dL_law_1025 (v := (0 : Int32)) (by decide) ?_
          exact (j_ΦL_no h).elim
      replace h := (X_if h).2 hc
      have hn25 : ¬ v11 = Int32.ofInt (25) := hc
      by_cases hc : v11 = (26 : Int32)
      · replace h := (X_if h).1 hc
        refine j_tableIn C0 (pc := 40) (off := 987) (tgt := 1027) dL_law_40 (by rw [hc]; decide) (by rw [hc]; decide) (by rw [hc]; decide) (by decide) ?_
        refine j_aload_n C0 (pc := 1027) dL_law_1027 rfl ?_
        refine j_aload_n C0 (pc := 1028) dL_law_1028 rfl ?_
        refine j_iload C0 (pc := 1029) dL_law_1029 rfl ?_
        refine j_iconst C0 (pc := 1031) dL_law_1031 (v := (1 : Int32)) (by decide) ?_
        refine j_iadd C0 (pc := 1032) dL_law_1032 ?_
        refine X_sld C0 HS (pc := 1033) dL_law_1033 h (fun v138 h => ?_)
        refine X_cV C0 (pc := 1034) (e' := e_I) (as := [.int v138]) (rest := []) (s' := fun w => .int w :: []) (g' := (g.1 + 0, g.2 + 0)) v_Law_136_9 (fun Ψ hΨ => K_X11_cover v1 v138 M Ψ hΨ) rfl rfl (fun _ => rfl) (by decide) (by show _ ≤ _ ∧ _ ≤ _; omega) rfl (Nat.le_of_ble_eq_true rfl) dL_law_1034 h (fun v139 M56 h => ?_)
        refine j_aload_n C0 (pc := 1037) dL_law_1037 rfl ?_
        refine j_aload_n C0 (pc := 1038) dL_law_1038 rfl ?_
        refine j_iload C0 (pc := 1039) dL_law_1039 rfl ?_
        refine j_iconst C0 (pc := 1041) dL_law_1041 (v := (1 : Int32)) (by decide) ?_
        refine j_iadd C0 (pc := 1042) dL_law_1042 ?_
        refine X_sld C0 HS (pc := 1043) dL_law_1043 h (fun v140 h => ?_)
        refine X_cV C0 (pc := 1044) (e' := e_I) (as := [.int v140]) (rest := [.int v139]) (s' := fun w => .int w :: [.int v139]) (g' := (g.1 + 0, g.2 + 0)) v_Law_139_10 (fun Ψ hΨ => K_X12_cover v2 v140 M56 Ψ hΨ) rfl rfl (fun _ => rfl) (by decide) (by show _ ≤ _ ∧ _ ≤ _; omega) rfl (Nat.le_of_ble_eq_true rfl) dL_law_1044 h (fun v141 M57 h => ?_)
        refine j_icmp_eq C0 (pc := 1047) (tgt := 1282) dL_law_1047 (by decide) (fun hc => ?_) (fun hc => ?_)
        · replace h := (X_if h).1 hc
          exact j_J.wide (g' := (g.1 + 6, g.2 + 1100)) ⟨by show _ ≤ _; omega, by show _ ≤ _; omega⟩ (j_J.wq (hk1282 v1 v2 v3 v4 M57 h) (And.intro rfl (And.intro rfl (And.intro rfl (And.intro rfl (And.intro rfl (trivial)))))))
        · replace h := (X_if h).2 hc
          refine j_iconst C0 (pc := 1050) dL_law_1050 (v := (0 : Int32)) (by decide) ?_
          exact (j_ΦL_no h).elim
      replace h := (X_if h).2 hc
      have hn26 : ¬ v11 = Int32.ofInt (26) := hc
      by_cases hc : v11 = (27 : Int32)
      · replace h := (X_if h).1 hc
        refine j_tableIn C0 (pc := 40) (off := 1012) (tgt := 1052) dL_law_40 (by rw [hc]; decide) (by rw [hc]; decide) (by rw [hc]; decide) (by decide) ?_
        refine X_join (fun (kj : Nat → Nat → Nat → Int32 → Nat → Int32 → Int32 → Int32 → m_M → Option (Int32 × m_M)) => ∀ (p0 : Nat) (p1 : Nat) (p2 : Nat) (p3 : Int32) (p4 : Nat) (p5 : Int32) (p6 : Int32) (p7 : Int32) (M : m_M), m_ok e_I j_ΦL (kj p0 p1 p2 p3 p4 p5 p6 p7 M) → j_J X 7 1079 [some (.ref (1000000 + 25)), some (.ref p0), some (.ref p1), some (.ref p2), some (.int p3), none, none] [.int p7, .int p6, .int p5, .ref p4] (g.1 + 6, g.2 + 1100) M) h (fun v142 v143 v144 v145 v146 v147 v148 v149 M58 h => ?_) (fun k1079 hk1079 h => ?_)
        rotate_left
        · refine j_aload_n C0 (pc := 1052) dL_law_1052 rfl ?_
          refine j_aload_n C0 (pc := 1053) dL_law_1053 rfl ?_
          refine j_iload C0 (pc := 1054) dL_law_1054 rfl ?_
          refine j_iconst C0 (pc := 1056) dL_law_1056 (v := (1 : Int32)) (by decide) ?_
          refine j_iadd C0 (pc := 1057) dL_law_1057 ?_
          refine X_sld C0 HS (pc := 1058) dL_law_1058 h (fun v164 h => ?_)
          refine j_aload_n C0 (pc := 1059) dL_law_1059 rfl ?_
          refine j_iload C0 (pc := 1060) dL_law_1060 rfl ?_
          refine j_iconst C0 (pc := 1062) dL_law_1062 (v := (2 : Int32)) (by decide) ?_
          refine j_iadd C0 (pc := 1063) dL_law_1063 ?_
          refine X_sld C0 HS (pc := 1064) dL_law_1064 h (fun v165 h => ?_)
          refine j_aload_n C0 (pc := 1065) dL_law_1065 rfl ?_
          refine j_iload C0 (pc := 1066) dL_law_1066 rfl ?_
          refine j_iconst C0 (pc := 1068) dL_law_1068 (v := (3 : Int32)) (by decide) ?_
          refine j_iadd C0 (pc := 1069) dL_law_1069 ?_
          refine X_sld C0 HS (pc := 1070) dL_law_1070 h (fun v166 h => ?_)
          refine j_if_eq C0 (pc := 1071) (tgt := 1078) dL_law_1071 (by decide) (fun hc => ?_) (fun hc => ?_)
          · replace h := (X_if h).1 hc
            refine j_iconst C0 (pc := 1078) dL_law_1078 (v := (0 : Int32)) (by decide) ?_
            exact j_J.wide (g' := (g.1 + 6, g.2 + 1100)) ⟨by show _ ≤ _; omega, by show _ ≤ _; omega⟩ (j_J.wq (hk1079 v1 v2 v3 v4 v1 v164 v165 (0 : Int32) M h) (And.intro rfl (And.intro rfl (And.intro rfl (And.intro rfl (And.intro rfl (trivial)))))))
          · replace h := (X_if h).2 hc
            refine j_iconst C0 (pc := 1074) dL_law_1074 (v := (1 : Int32)) (by decide) ?_
            refine j_goto C0 (pc := 1075) (tgt := 1079) dL_law_1075 (by decide) ?_
            exact j_J.wide (g' := (g.1 + 6, g.2 + 1100)) ⟨by show _ ≤ _; omega, by show _ ≤ _; omega⟩ (j_J.wq (hk1079 v1 v2 v3 v4 v1 v164 v165 (1 : Int32) M h) (And.intro rfl (And.intro rfl (And.intro rfl (And.intro rfl (And.intro rfl (trivial)))))))
        refine X_join (fun (kj : Nat → Nat → Nat → Int32 → Int32 → Nat → Int32 → Int32 → Int32 → m_M → Option (Int32 × m_M)) => ∀ (p0 : Nat) (p1 : Nat) (p2 : Nat) (p3 : Int32) (p4 : Int32) (p5 : Nat) (p6 : Int32) (p7 : Int32) (p8 : Int32) (M : m_M), m_ok e_I j_ΦL (kj p0 p1 p2 p3 p4 p5 p6 p7 p8 M) → j_J X 7 1109 [some (.ref (1000000 + 25)), some (.ref p0), some (.ref p1), some (.ref p2), some (.int p3), none, none] [.int p8, .int p7, .int p6, .ref p5, .int p4] (g.1 + 6, g.2 + 1100) M) h (fun v150 v151 v152 v153 v154 v155 v156 v157 v158 M59 h => ?_) (fun k1109 hk1109 h => ?_)
        · refine X_cV C0 (pc := 1109) (e' := e_I) (as := [.int v156, .int v157, .int v158]) (rest := [.int v154]) (s' := fun w => .int w :: [.int v154]) (g' := (g.1 + 6, g.2 + 1100)) v_Law_144_10 (fun Ψ hΨ => K_X12_see v155 v156 v157 v158 M59 Ψ hΨ) rfl rfl (fun _ => rfl) (by decide) (by show _ ≤ _ ∧ _ ≤ _; omega) rfl (Nat.le_of_ble_eq_true rfl) dL_law_1109 h (fun v159 M60 h => ?_)
          refine j_icmp_eq C0 (pc := 1112) (tgt := 1282) dL_law_1112 (by decide) (fun hc => ?_) (fun hc => ?_)
          · replace h := (X_if h).1 hc
            exact j_J.wide (g' := (g.1 + 6, g.2 + 1100)) ⟨by show _ ≤ _; omega, by show _ ≤ _; omega⟩ (j_J.wq (hk1282 v150 v151 v152 v153 M60 h) (And.intro rfl (And.intro rfl (And.intro rfl (And.intro rfl (And.intro rfl (trivial)))))))
          · replace h := (X_if h).2 hc
            refine j_iconst C0 (pc := 1115) dL_law_1115 (v := (0 : Int32)) (by decide) ?_
            exact (j_ΦL_no h).elim
        refine X_cV C0 (pc := 1079) (e' := e_I) (as := [.int v147, .int v148, .int v149]) (rest := []) (s' := fun w => .int w :: []) (g' := (g.1 + 6, g.2 + 1100)) v_Law_140_9 (fun Ψ hΨ => K_X11_see v146 v147 v148 v149 M58 Ψ hΨ) rfl rfl (fun _ => rfl) (by decide) (by show _ ≤ _ ∧ _ ≤ _; omega) rfl (Nat.le_of_ble_eq_true rfl) dL_law_1079 h (fun v160 M61 h => ?_)
        refine j_aload_n C0 (pc := 1082) dL_law_1082 rfl ?_
        refine j_aload_n C0 (pc := 1083) dL_law_1083 rfl ?_
        refine j_iload C0 (pc := 1084) dL_law_1084 rfl ?_
        refine j_iconst C0 (pc := 1086) dL_law_1086 (v := (1 : Int32)) (by decide) ?_
        refine j_iadd C0 (pc := 1087) dL_law_1087 ?_
        refine X_sld C0 HS (pc := 1088) dL_law_1088 h (fun v161 h => ?_)
        refine j_aload_n C0 (pc := 1089) dL_law_1089 rfl ?_
        refine j_iload C0 (pc := 1090) dL_law_1090 rfl ?_
        refine j_iconst C0 (pc := 1092) dL_law_1092 (v := (2 : Int32)) (by decide) ?_
        refine j_iadd C0 (pc := 1093) dL_law_1093 ?_
        refine X_sld C0 HS (pc := 1094) dL_law_1094 h (fun v162 h => ?_)
        refine j_aload_n C0 (pc := 1095) dL_law_1095 rfl ?_
        refine j_iload C0 (pc := 1096) dL_law_1096 rfl ?_
        refine j_iconst C0 (pc := 1098) dL_law_1098 (v := (3 : Int32)) (by decide) ?_
        refine j_iadd C0 (pc := 1099) dL_law_1099 ?_
        refine X_sld C0 HS (pc := 1100) dL_law_1100 h (fun v163 h => ?_)
        refine j_if_eq C0 (pc := 1101) (tgt := 1108) dL_law_1101 (by decide) (fun hc => ?_) (fun hc => ?_)
        · replace h := (X_if h).1 hc
          refine j_iconst C0 (pc := 1108) dL_law_1108 (v := (0 : Int32)) (by decide) ?_
          exact j_J.wide (g' := (g.1 + 6, g.2 + 1100)) ⟨by show _ ≤ _; omega, by show _ ≤ _; omega⟩ (j_J.wq (hk1109 v142 v143 v144 v145 v160 v143 v161 v162 (0 : Int32) M61 h) (And.intro rfl (And.intro rfl (And.intro rfl (And.intro rfl (And.intro rfl (trivial)))))))
        · replace h := (X_if h).2 hc
          refine j_iconst C0 (pc := 1104) dL_law_1104 (v := (1 : Int32)) (by decide) ?_
          refine j_goto C0 (pc := 1105) (tgt := 1109) dL_law_1105 (by decide) ?_
          exact j_J.wide (g' := (g.1 + 6, g.2 + 1100)) ⟨by show _ ≤ _; omega, by show _ ≤ _; omega⟩ (j_J.wq (hk1109 v142 v143 v144 v145 v160 v143 v161 v162 (1 : Int32) M61 h) (And.intro rfl (And.intro rfl (And.intro rfl (And.intro rfl (And.intro rfl (trivial)))))))
      replace h := (X_if h).2 hc
      have hn27 : ¬ v11 = Int32.ofInt (27) := hc
      by_cases hc : v11 = (28 : Int32)
      · replace h := (X_if h).1 hc
        refine j_tableIn C0 (pc := 40) (off := 1077) (tgt := 1117) dL_law_40 (by rw [hc]; decide) (by rw [hc]; decide) (by rw [hc]; decide) (by decide) ?_
        refine j_aload_n C0 (pc := 1117) dL_law_1117 rfl ?_
        refine X_cV C0 (pc := 1118) (e' := e_I) (as := []) (rest := []) (s' := fun w => .int w :: []) (g' := (g.1 + 0, g.2 + 0)) v_Law_145_9 (fun Ψ hΨ => K_X11_knows v1 M Ψ hΨ) rfl rfl (fun _ => rfl) (by decide) (by show _ ≤ _ ∧ _ ≤ _; omega) rfl (Nat.le_of_ble_eq_true rfl) dL_law_1118 h (fun v167 M62 h => ?_)
        refine j_aload_n C0 (pc := 1121) dL_law_1121 rfl ?_
        refine X_cV C0 (pc := 1122) (e' := e_I) (as := []) (rest := [.int v167]) (s' := fun w => .int w :: [.int v167]) (g' := (g.1 + 0, g.2 + 0)) v_Law_148_10 (fun Ψ hΨ => K_X12_knows v2 M62 Ψ hΨ) rfl rfl (fun _ => rfl) (by decide) (by show _ ≤ _ ∧ _ ≤ _; omega) rfl (Nat.le_of_ble_eq_true rfl) dL_law_1122 h (fun v168 M63 h => ?_)
        refine j_icmp_eq C0 (pc := 1125) (tgt := 1282) dL_law_1125 (by decide) (fun hc => ?_) (fun hc => ?_)
        · replace h := (X_if h).1 hc
          exact j_J.wide (g' := (g.1 + 6, g.2 + 1100)) ⟨by show _ ≤ _; omega, by show _ ≤ _; omega⟩ (j_J.wq (hk1282 v1 v2 v3 v4 M63 h) (And.intro rfl (And.intro rfl (And.intro rfl (And.intro rfl (And.intro rfl (trivial)))))))
        · replace h := (X_if h).2 hc
          refine j_iconst C0 (pc := 1128) dL_law_1128 (v := (0 : Int32)) (by decide) ?_
          exact (j_ΦL_no h).elim
      replace h := (X_if h).2 hc
      have hn28 : ¬ v11 = Int32.ofInt (28) := hc
      by_cases hc : v11 = (29 : Int32)
      · replace h := (X_if h).1 hc
        refine j_tableIn C0 (pc := 40) (off := 1090) (tgt := 1130) dL_law_40 (by rw [hc]; decide) (by rw [hc]; decide) (by rw [hc]; decide) (by decide) ?_
        refine j_aload_n C0 (pc := 1130) dL_law_1130 rfl ?_
        refine j_aload_n C0 (pc := 1131) dL_law_1131 rfl ?_
        refine j_iload C0 (pc := 1132) dL_law_1132 rfl ?_
        refine j_iconst C0 (pc := 1134) dL_law_1134 (v := (1 : Int32)) (by decide) ?_
        refine j_iadd C0 (pc := 1135) dL_law_1135 ?_
        refine X_sld C0 HS (pc := 1136) dL_law_1136 h (fun v169 h => ?_)
        refine X_cV C0 (pc := 1137) (e' := e_I) (as := [.int v169]) (rest := []) (s' := fun w => .int w :: []) (g' := (g.1 + 0, g.2 + 0)) v_Law_149_9 (fun Ψ hΨ => K_X11_tells v1 v169 M Ψ hΨ) rfl rfl (fun _ => rfl) (by decide) (by show _ ≤ _ ∧ _ ≤ _; omega) rfl (Nat.le_of_ble_eq_true rfl) dL_law_1137 h (fun v170 M64 h => ?_)
        refine j_aload_n C0 (pc := 1140) dL_law_1140 rfl ?_
        refine j_aload_n C0 (pc := 1141) dL_law_1141 rfl ?_
        refine j_iload C0 (pc := 1142) dL_law_1142 rfl ?_
        refine j_iconst C0 (pc := 1144) dL_law_1144 (v := (1 : Int32)) (by decide) ?_
        refine j_iadd C0 (pc := 1145) dL_law_1145 ?_
        refine X_sld C0 HS (pc := 1146) dL_law_1146 h (fun v171 h => ?_)
        refine X_cV C0 (pc := 1147) (e' := e_I) (as := [.int v171]) (rest := [.int v170]) (s' := fun w => .int w :: [.int v170]) (g' := (g.1 + 0, g.2 + 0)) v_Law_152_10 (fun Ψ hΨ => K_X12_tells v2 v171 M64 Ψ hΨ) rfl rfl (fun _ => rfl) (by decide) (by show _ ≤ _ ∧ _ ≤ _; omega) rfl (Nat.le_of_ble_eq_true rfl) dL_law_1147 h (fun v172 M65 h => ?_)
        refine j_icmp_eq C0 (pc := 1150) (tgt := 1282) dL_law_1150 (by decide) (fun hc => ?_) (fun hc => ?_)
        · replace h := (X_if h).1 hc
          exact j_J.wide (g' := (g.1 + 6, g.2 + 1100)) ⟨by show _ ≤ _; omega, by show _ ≤ _; omega⟩ (j_J.wq (hk1282 v1 v2 v3 v4 M65 h) (And.intro rfl (And.intro rfl (And.intro rfl (And.intro rfl (And.intro rfl (trivial)))))))
        · replace h := (X_if h).2 hc
          refine j_iconst C0 (pc := 1153) dL_law_1153 (v := (0 : Int32)) (by decide) ?_
          exact (j_ΦL_no h).elim
      replace h := (X_if h).2 hc
      have hn29 : ¬ v11 = Int32.ofInt (29) := hc
      by_cases hc : v11 = (30 : Int32)
      · replace h := (X_if h).1 hc
        refine j_tableIn C0 (pc := 40) (off := 1115) (tgt := 1155) dL_law_40 (by rw [hc]; decide) (by rw [hc]; decide) (by rw [hc]; decide) (by decide) ?_
        refine j_aload_n C0 (pc := 1155) dL_law_1155 rfl ?_
        refine j_aload_n C0 (pc := 1156) dL_law_1156 rfl ?_
        refine j_iload C0 (pc := 1157) dL_law_1157 rfl ?_
        refine j_iconst C0 (pc := 1159) dL_law_1159 (v := (1 : Int32)) (by decide) ?_
        refine j_iadd C0 (pc := 1160) dL_law_1160 ?_
        refine X_sld C0 HS (pc := 1161) dL_law_1161 h (fun v173 h => ?_)
        refine j_aload_n C0 (pc := 1162) dL_law_1162 rfl ?_
        refine j_iload C0 (pc := 1163) dL_law_1163 rfl ?_
        refine j_iconst C0 (pc := 1165) dL_law_1165 (v := (2 : Int32)) (by decide) ?_
        refine j_iadd C0 (pc := 1166) dL_law_1166 ?_
        refine X_sld C0 HS (pc := 1167) dL_law_1167 h (fun v174 h => ?_)
        refine j_aload_n C0 (pc := 1168) dL_law_1168 rfl ?_
        refine j_iload C0 (pc := 1169) dL_law_1169 rfl ?_
        refine j_iconst C0 (pc := 1171) dL_law_1171 (v := (3 : Int32)) (by decide) ?_
        refine j_iadd C0 (pc := 1172) dL_law_1172 ?_
        refine X_sld C0 HS (pc := 1173) dL_law_1173 h (fun v175 h => ?_)
        refine X_cV C0 (pc := 1174) (e' := e_I) (as := [.int v173, .int v174, .int v175]) (rest := []) (s' := fun w => .int w :: []) (g' := (g.1 + 0, g.2 + 0)) v_Law_153_9 (fun Ψ hΨ => K_X11_year v1 v173 v174 v175 M Ψ hΨ) rfl rfl (fun _ => rfl) (by decide) (by show _ ≤ _ ∧ _ ≤ _; omega) rfl (Nat.le_of_ble_eq_true rfl) dL_law_1174 h (fun v176 M66 h => ?_)
        refine j_aload_n C0 (pc := 1177) dL_law_1177 rfl ?_
        refine j_aload_n C0 (pc := 1178) dL_law_1178 rfl ?_
        refine j_iload C0 (pc := 1179) dL_law_1179 rfl ?_
        refine j_iconst C0 (pc := 1181) dL_law_1181 (v := (1 : Int32)) (by decide) ?_
        refine j_iadd C0 (pc := 1182) dL_law_1182 ?_
        refine X_sld C0 HS (pc := 1183) dL_law_1183 h (fun v177 h => ?_)
        refine j_aload_n C0 (pc := 1184) dL_law_1184 rfl ?_
        refine j_iload C0 (pc := 1185) dL_law_1185 rfl ?_
        refine j_iconst C0 (pc := 1187) dL_law_1187 (v := (2 : Int32)) (by decide) ?_
        refine j_iadd C0 (pc := 1188) dL_law_1188 ?_
        refine X_sld C0 HS (pc := 1189) dL_law_1189 h (fun v178 h => ?_)
        refine j_aload_n C0 (pc := 1190) dL_law_1190 rfl ?_
        refine j_iload C0 (pc := 1191) dL_law_1191 rfl ?_
        refine j_iconst C0 (pc := 1193) dL_law_1193 (v := (3 : Int32)) (by decide) ?_
        refine j_iadd C0 (pc := 1194) dL_law_1194 ?_
        refine X_sld C0 HS (pc := 1195) dL_law_1195 h (fun v179 h => ?_)
        refine X_cV C0 (pc := 1196) (e' := e_I) (as := [.int v177, .int v178, .int v179]) (rest := [.int v176]) (s' := fun w => .int w :: [.int v176]) (g' := (g.1 + 0, g.2 + 0)) v_Law_156_10 (fun Ψ hΨ => K_X12_year v2 v177 v178 v179 M66 Ψ hΨ) rfl rfl (fun _ => rfl) (by decide) (by show _ ≤ _ ∧ _ ≤ _; omega) rfl (Nat.le_of_ble_eq_true rfl) dL_law_1196 h (fun v180 M67 h => ?_)
        refine j_icmp_eq C0 (pc := 1199) (tgt := 1282) dL_law_1199 (by decide) (fun hc => ?_) (fun hc => ?_)
        · replace h := (X_if h).1 hc
          exact j_J.wide (g' := (g.1 + 6, g.2 + 1100)) ⟨by show _ ≤ _; omega, by show _ ≤ _; omega⟩ (j_J.wq (hk1282 v1 v2 v3 v4 M67 h) (And.intro rfl (And.intro rfl (And.intro rfl (And.intro rfl (And.intro rfl (trivial)))))))
        · replace h := (X_if h).2 hc
          refine j_iconst C0 (pc := 1202) dL_law_1202 (v := (0 : Int32)) (by decide) ?_
          exact (j_ΦL_no h).elim
      replace h := (X_if h).2 hc
      have hn30 : ¬ v11 = Int32.ofInt (30) := hc
      by_cases hc : v11 = (31 : Int32)
      · replace h := (X_if h).1 hc
        refine j_tableIn C0 (pc := 40) (off := 1164) (tgt := 1204) dL_law_40 (by rw [hc]; decide) (by rw [hc]; decide) (by rw [hc]; decide) (by decide) ?_
        refine X_join (fun (kj : Nat → Nat → Nat → Int32 → Nat → Int32 → Int32 → m_M → Option (Int32 × m_M)) => ∀ (p0 : Nat) (p1 : Nat) (p2 : Nat) (p3 : Int32) (p4 : Nat) (p5 : Int32) (p6 : Int32) (M : m_M), m_ok e_I j_ΦL (kj p0 p1 p2 p3 p4 p5 p6 M) → j_J X 7 1225 [some (.ref (1000000 + 25)), some (.ref p0), some (.ref p1), some (.ref p2), some (.int p3), none, none] [.int p6, .int p5, .ref p4] (g.1 + 6, g.2 + 1100) M) h (fun v181 v182 v183 v184 v185 v186 v187 M68 h => ?_) (fun k1225 hk1225 h => ?_)
        rotate_left
        · refine j_aload_n C0 (pc := 1204) dL_law_1204 rfl ?_
          refine j_aload_n C0 (pc := 1205) dL_law_1205 rfl ?_
          refine j_iload C0 (pc := 1206) dL_law_1206 rfl ?_
          refine j_iconst C0 (pc := 1208) dL_law_1208 (v := (1 : Int32)) (by decide) ?_
          refine j_iadd C0 (pc := 1209) dL_law_1209 ?_
          refine X_sld C0 HS (pc := 1210) dL_law_1210 h (fun v200 h => ?_)
          refine j_aload_n C0 (pc := 1211) dL_law_1211 rfl ?_
          refine j_iload C0 (pc := 1212) dL_law_1212 rfl ?_
          refine j_iconst C0 (pc := 1214) dL_law_1214 (v := (2 : Int32)) (by decide) ?_
          refine j_iadd C0 (pc := 1215) dL_law_1215 ?_
          refine X_sld C0 HS (pc := 1216) dL_law_1216 h (fun v201 h => ?_)
          refine j_if_eq C0 (pc := 1217) (tgt := 1224) dL_law_1217 (by decide) (fun hc => ?_) (fun hc => ?_)
          · replace h := (X_if h).1 hc
            refine j_iconst C0 (pc := 1224) dL_law_1224 (v := (0 : Int32)) (by decide) ?_
            exact j_J.wide (g' := (g.1 + 6, g.2 + 1100)) ⟨by show _ ≤ _; omega, by show _ ≤ _; omega⟩ (j_J.wq (hk1225 v1 v2 v3 v4 v1 v200 (0 : Int32) M h) (And.intro rfl (And.intro rfl (And.intro rfl (And.intro rfl (And.intro rfl (trivial)))))))
          · replace h := (X_if h).2 hc
            refine j_iconst C0 (pc := 1220) dL_law_1220 (v := (1 : Int32)) (by decide) ?_
            refine j_goto C0 (pc := 1221) (tgt := 1225) dL_law_1221 (by decide) ?_
            exact j_J.wide (g' := (g.1 + 6, g.2 + 1100)) ⟨by show _ ≤ _; omega, by show _ ≤ _; omega⟩ (j_J.wq (hk1225 v1 v2 v3 v4 v1 v200 (1 : Int32) M h) (And.intro rfl (And.intro rfl (And.intro rfl (And.intro rfl (And.intro rfl (trivial)))))))
        refine X_join (fun (kj : Nat → Nat → Nat → Int32 → Int32 → Nat → Int32 → Int32 → m_M → Option (Int32 × m_M)) => ∀ (p0 : Nat) (p1 : Nat) (p2 : Nat) (p3 : Int32) (p4 : Int32) (p5 : Nat) (p6 : Int32) (p7 : Int32) (M : m_M), m_ok e_I j_ΦL (kj p0 p1 p2 p3 p4 p5 p6 p7 M) → j_J X 7 1249 [some (.ref (1000000 + 25)), some (.ref p0), some (.ref p1), some (.ref p2), some (.int p3), none, none] [.int p7, .int p6, .ref p5, .int p4] (g.1 + 6, g.2 + 1100) M) h (fun v188 v189 v190 v191 v192 v193 v194 v195 M69 h => ?_) (fun k1249 hk1249 h => ?_)
        · refine X_cV C0 (pc := 1249) (e' := e_I) (as := [.int v194, .int v195]) (rest := [.int v192]) (s' := fun w => .int w :: [.int v192]) (g' := (g.1 + 6, g.2 + 1100)) v_Law_161_10 (fun Ψ hΨ => K_X12_mark v193 v194 v195 M69 Ψ hΨ) rfl rfl (fun _ => rfl) (by decide) (by show _ ≤ _ ∧ _ ≤ _; omega) rfl (Nat.le_of_ble_eq_true rfl) dL_law_1249 h (fun v196 M70 h => ?_)
          refine j_icmp_eq C0 (pc := 1252) (tgt := 1282) dL_law_1252 (by decide) (fun hc => ?_) (fun hc => ?_)
          · replace h := (X_if h).1 hc
            exact j_J.wide (g' := (g.1 + 6, g.2 + 1100)) ⟨by show _ ≤ _; omega, by show _ ≤ _; omega⟩ (j_J.wq (hk1282 v188 v189 v190 v191 M70 h) (And.intro rfl (And.intro rfl (And.intro rfl (And.intro rfl (And.intro rfl (trivial)))))))
          · replace h := (X_if h).2 hc
            refine j_iconst C0 (pc := 1255) dL_law_1255 (v := (0 : Int32)) (by decide) ?_
            exact (j_ΦL_no h).elim
        refine X_cV C0 (pc := 1225) (e' := e_I) (as := [.int v186, .int v187]) (rest := []) (s' := fun w => .int w :: []) (g' := (g.1 + 6, g.2 + 1100)) v_Law_157_9 (fun Ψ hΨ => K_X11_mark v185 v186 v187 M68 Ψ hΨ) rfl rfl (fun _ => rfl) (by decide) (by show _ ≤ _ ∧ _ ≤ _; omega) rfl (Nat.le_of_ble_eq_true rfl) dL_law_1225 h (fun v197 M71 h => ?_)
        refine j_aload_n C0 (pc := 1228) dL_law_1228 rfl ?_
        refine j_aload_n C0 (pc := 1229) dL_law_1229 rfl ?_
        refine j_iload C0 (pc := 1230) dL_law_1230 rfl ?_
        refine j_iconst C0 (pc := 1232) dL_law_1232 (v := (1 : Int32)) (by decide) ?_
        refine j_iadd C0 (pc := 1233) dL_law_1233 ?_
        refine X_sld C0 HS (pc := 1234) dL_law_1234 h (fun v198 h => ?_)
        refine j_aload_n C0 (pc := 1235) dL_law_1235 rfl ?_
        refine j_iload C0 (pc := 1236) dL_law_1236 rfl ?_
        refine j_iconst C0 (pc := 1238) dL_law_1238 (v := (2 : Int32)) (by decide) ?_
        refine j_iadd C0 (pc := 1239) dL_law_1239 ?_
        refine X_sld C0 HS (pc := 1240) dL_law_1240 h (fun v199 h => ?_)
        refine j_if_eq C0 (pc := 1241) (tgt := 1248) dL_law_1241 (by decide) (fun hc => ?_) (fun hc => ?_)
        · replace h := (X_if h).1 hc
          refine j_iconst C0 (pc := 1248) dL_law_1248 (v := (0 : Int32)) (by decide) ?_
          exact j_J.wide (g' := (g.1 + 6, g.2 + 1100)) ⟨by show _ ≤ _; omega, by show _ ≤ _; omega⟩ (j_J.wq (hk1249 v181 v182 v183 v184 v197 v182 v198 (0 : Int32) M71 h) (And.intro rfl (And.intro rfl (And.intro rfl (And.intro rfl (And.intro rfl (trivial)))))))
        · replace h := (X_if h).2 hc
          refine j_iconst C0 (pc := 1244) dL_law_1244 (v := (1 : Int32)) (by decide) ?_
          refine j_goto C0 (pc := 1245) (tgt := 1249) dL_law_1245 (by decide) ?_
          exact j_J.wide (g' := (g.1 + 6, g.2 + 1100)) ⟨by show _ ≤ _; omega, by show _ ≤ _; omega⟩ (j_J.wq (hk1249 v181 v182 v183 v184 v197 v182 v198 (1 : Int32) M71 h) (And.intro rfl (And.intro rfl (And.intro rfl (And.intro rfl (And.intro rfl (trivial)))))))
      replace h := (X_if h).2 hc
      have hn31 : ¬ v11 = Int32.ofInt (31) := hc
      by_cases hc : v11 = (32 : Int32)
      · replace h := (X_if h).1 hc
        refine j_tableIn C0 (pc := 40) (off := 1217) (tgt := 1257) dL_law_40 (by rw [hc]; decide) (by rw [hc]; decide) (by rw [hc]; decide) (by decide) ?_
        refine j_aload_n C0 (pc := 1257) dL_law_1257 rfl ?_
        refine j_aload_n C0 (pc := 1258) dL_law_1258 rfl ?_
        refine j_iload C0 (pc := 1259) dL_law_1259 rfl ?_
        refine j_iconst C0 (pc := 1261) dL_law_1261 (v := (1 : Int32)) (by decide) ?_
        refine j_iadd C0 (pc := 1262) dL_law_1262 ?_
        refine X_sld C0 HS (pc := 1263) dL_law_1263 h (fun v202 h => ?_)
        refine X_cV C0 (pc := 1264) (e' := e_I) (as := [.int v202]) (rest := []) (s' := fun w => .int w :: []) (g' := (g.1 + 0, g.2 + 0)) v_Law_162_9 (fun Ψ hΨ => K_X11_count v1 v202 M Ψ hΨ) rfl rfl (fun _ => rfl) (by decide) (by show _ ≤ _ ∧ _ ≤ _; omega) rfl (Nat.le_of_ble_eq_true rfl) dL_law_1264 h (fun v203 M72 h => ?_)
        refine j_aload_n C0 (pc := 1267) dL_law_1267 rfl ?_
        refine j_aload_n C0 (pc := 1268) dL_law_1268 rfl ?_
        refine j_iload C0 (pc := 1269) dL_law_1269 rfl ?_
        refine j_iconst C0 (pc := 1271) dL_law_1271 (v := (1 : Int32)) (by decide) ?_
        refine j_iadd C0 (pc := 1272) dL_law_1272 ?_
        refine X_sld C0 HS (pc := 1273) dL_law_1273 h (fun v204 h => ?_)
        refine X_cV C0 (pc := 1274) (e' := e_I) (as := [.int v204]) (rest := [.int v203]) (s' := fun w => .int w :: [.int v203]) (g' := (g.1 + 0, g.2 + 0)) v_Law_165_10 (fun Ψ hΨ => K_X12_count v2 v204 M72 Ψ hΨ) rfl rfl (fun _ => rfl) (by decide) (by show _ ≤ _ ∧ _ ≤ _; omega) rfl (Nat.le_of_ble_eq_true rfl) dL_law_1274 h (fun v205 M73 h => ?_)
        refine j_icmp_eq C0 (pc := 1277) (tgt := 1282) dL_law_1277 (by decide) (fun hc => ?_) (fun hc => ?_)
        · replace h := (X_if h).1 hc
          exact j_J.wide (g' := (g.1 + 6, g.2 + 1100)) ⟨by show _ ≤ _; omega, by show _ ≤ _; omega⟩ (j_J.wq (hk1282 v1 v2 v3 v4 M73 h) (And.intro rfl (And.intro rfl (And.intro rfl (And.intro rfl (And.intro rfl (trivial)))))))
        · replace h := (X_if h).2 hc
          refine j_iconst C0 (pc := 1280) dL_law_1280 (v := (0 : Int32)) (by decide) ?_
          exact (j_ΦL_no h).elim
      replace h := (X_if h).2 hc
      have hn32 : ¬ v11 = Int32.ofInt (32) := hc
      have q0 := m_sw (k := 0) hn0
      have q1 := m_sw (k := 1) hn1
      have q2 := m_sw (k := 2) hn2
      have q3 := m_sw (k := 3) hn3
      have q4 := m_sw (k := 4) hn4
      have q5 := m_sw (k := 5) hn5
      have q6 := m_sw (k := 6) hn6
      have q7 := m_sw (k := 7) hn7
      have q8 := m_sw (k := 8) hn8
      have q9 := m_sw (k := 9) hn9
      have q10 := m_sw (k := 10) hn10
      have q11 := m_sw (k := 11) hn11
      have q12 := m_sw (k := 12) hn12
      have q13 := m_sw (k := 13) hn13
      have q14 := m_sw (k := 14) hn14
      have q15 := m_sw (k := 15) hn15
      have q16 := m_sw (k := 16) hn16
      have q17 := m_sw (k := 17) hn17
      have q18 := m_sw (k := 18) hn18
      have q19 := m_sw (k := 19) hn19
      have q20 := m_sw (k := 20) hn20
      have q21 := m_sw (k := 21) hn21
      have q22 := m_sw (k := 22) hn22
      have q23 := m_sw (k := 23) hn23
      have q24 := m_sw (k := 24) hn24
      have q25 := m_sw (k := 25) hn25
      have q26 := m_sw (k := 26) hn26
      have q27 := m_sw (k := 27) hn27
      have q28 := m_sw (k := 28) hn28
      have q29 := m_sw (k := 29) hn29
      have q30 := m_sw (k := 30) hn30
      have q31 := m_sw (k := 31) hn31
      have q32 := m_sw (k := 32) hn32
      refine j_tableOut C0 (pc := 40) (tgt := 1282) dL_law_40 (by omega) (by decide) ?_
      exact j_J.wide (g' := (g.1 + 6, g.2 + 1100)) ⟨by show _ ≤ _; omega, by show _ ≤ _; omega⟩ (j_J.wq (hk1282 v1 v2 v3 v4 M h) (And.intro rfl (And.intro rfl (And.intro rfl (And.intro rfl (And.intro rfl (trivial)))))))
set_option maxHeartbeats 40000000 in
theorem J_L_law {X : j_X} {L : Nat} {xs : Nat → Int32} (C0 : j_C0 X yL_law cL_law 7 1312 601024 7293034) (HL : X.2.1.stackTraces = false) (HS : j_Sc X L xs) (HR : j_R1 X) (M : m_M) (h : m_ok e_I j_ΦL (F_L_law L xs M)) : j_J X 7 0 [some (.ref (1000000 + 25)), none, none, none, none, none, none] [] (0, 0) M := by
  unfold F_L_law at h
  refine X_new C0 (pc := 0) (g' := (1, 16)) k_OV (j_c1 29 (by decide +kernel)) (j_c1 30 (by decide +kernel)) (j_c1 1 (by decide +kernel)) (by decide) rfl dL_law_0 h (fun v1 M1 h => ?_)
  refine j_dup C0 (pc := 3) dL_law_3 rfl ?_
  refine X_cI C0 (pc := 4) (e' := e_V) (as := []) (rest := [.ref v1]) (s' := fun _ => [.ref v1]) (g' := (128, 21208)) i_Law_15 (fun Ψ hΨ => K_X11_init v1 M1 Ψ hΨ) rfl rfl (fun _ => rfl) (by decide) (by decide) rfl (Nat.le_of_ble_eq_true rfl) dL_law_4 h (fun _ M2 h => ?_)
  refine j_astore_n C0 (pc := 7) dL_law_7 (Nat.le_of_ble_eq_true rfl) ?_
  show j_J X 7 8 [some (.ref (1000000 + 25)), some (.ref v1), none, none, none, none, none] [] (128, 21208) M2
  refine X_new C0 (pc := 8) (g' := (129, 21282)) k_OM (j_c7 71 (by decide +kernel)) (j_c7 72 (by decide +kernel)) (j_c1 13 (by decide +kernel)) (by decide) rfl dL_law_8 h (fun v2 M3 h => ?_)
  refine j_dup C0 (pc := 11) dL_law_11 rfl ?_
  refine X_cI C0 (pc := 12) (e' := e_V) (as := []) (rest := [.ref v2]) (s' := fun _ => [.ref v2]) (g' := (177, 58413)) i_Law_18 (fun Ψ hΨ => K_X12_init v2 M3 Ψ hΨ) rfl rfl (fun _ => rfl) (by decide) (by decide) rfl (Nat.le_of_ble_eq_true rfl) dL_law_12 h (fun _ M4 h => ?_)
  refine j_astore_n C0 (pc := 15) dL_law_15 (Nat.le_of_ble_eq_true rfl) ?_
  show j_J X 7 16 [some (.ref (1000000 + 25)), some (.ref v1), some (.ref v2), none, none, none, none] [] (177, 58413) M4
  refine j_iconst C0 (pc := 16) dL_law_16 (v := (1 : Int32)) (by decide) ?_
  refine X_newJ C0 (pc := 17) (cap := 1) (g' := (178, 58414)) (j_c1 173 (by decide +kernel)) (by decide) (by decide) rfl dL_law_17 h (fun v3 M5 h => ?_)
  refine j_astore_n C0 (pc := 19) dL_law_19 (Nat.le_of_ble_eq_true rfl) ?_
  show j_J X 7 20 [some (.ref (1000000 + 25)), some (.ref v1), some (.ref v2), some (.ref v3), none, none, none] [] (178, 58414) M5
  refine j_iconst C0 (pc := 20) dL_law_20 (v := (0 : Int32)) (by decide) ?_
  refine j_istore C0 (pc := 21) dL_law_21 (Nat.le_of_ble_eq_true rfl) ?_
  show j_J X 7 23 [some (.ref (1000000 + 25)), some (.ref v1), some (.ref v2), some (.ref v3), some (.int (0 : Int32)), none, none] [] (178, 58414) M5
  exact j_J.wq (L_L_law_loop C0 HL HS HR 513 (178, 58414) (by decide) v1 v2 v3 (0 : Int32) M5 h) (And.intro rfl (And.intro rfl (And.intro rfl (And.intro rfl (And.intro rfl (trivial))))))
