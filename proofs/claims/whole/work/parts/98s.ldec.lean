/-! The law's code and the words of its calls: printed by mklaw.py. -/
section Ld
abbrev mt_law : MT := ("HillClockLaw", code, 7, ret, 0)
theorem dl_0 : decode code 0 = .ok (.new 8, 3) := by decide +kernel
theorem dl_3 : decode code 3 = .ok (.dup, 1) := by decide +kernel
theorem dl_4 : decode code 4 = .ok (.invokespecial 15, 3) := by decide +kernel
theorem dl_7 : decode code 7 = .ok (.astore_n 1, 1) := by decide +kernel
theorem dl_8 : decode code 8 = .ok (.new 16, 3) := by decide +kernel
theorem dl_11 : decode code 11 = .ok (.dup, 1) := by decide +kernel
theorem dl_12 : decode code 12 = .ok (.invokespecial 18, 3) := by decide +kernel
theorem dl_15 : decode code 15 = .ok (.astore_n 2, 1) := by decide +kernel
theorem dl_16 : decode code 16 = .ok (.iconst 1, 1) := by decide +kernel
theorem dl_17 : decode code 17 = .ok (.newarray .long, 2) := by decide +kernel
theorem dl_19 : decode code 19 = .ok (.astore_n 3, 1) := by decide +kernel
theorem dl_20 : decode code 20 = .ok (.iconst 0, 1) := by decide +kernel
theorem dl_21 : decode code 21 = .ok (.istore 4, 2) := by decide +kernel
theorem dl_23 : decode code 23 = .ok (.iload 4, 2) := by decide +kernel
theorem dl_25 : decode code 25 = .ok (.aload_n 0, 1) := by decide +kernel
theorem dl_26 : decode code 26 = .ok (.arraylength, 1) := by decide +kernel
theorem dl_27 : decode code 27 = .ok (.bipush 7, 2) := by decide +kernel
theorem dl_29 : decode code 29 = .ok (.isub, 1) := by decide +kernel
theorem dl_30 : decode code 30 = .ok (.if_icmp .gt 1221, 3) := by decide +kernel
theorem dl_33 : decode code 33 = .ok (.aload_n 0, 1) := by decide +kernel
theorem dl_34 : decode code 34 = .ok (.iload 4, 2) := by decide +kernel
theorem dl_36 : decode code 36 = .ok (.iaload, 1) := by decide +kernel
theorem dl_37 : decode code 37 = .ok (.bipush 31, 2) := by decide +kernel
theorem dl_39 : decode code 39 = .ok (.iand, 1) := by decide +kernel
theorem dl_40 : decode code 40 = .ok (.tableswitch 1205 0 27 #[128, 275, 288, 301, 338, 375, 412, 449, 498, 535, 560, 597, 610, 623, 636, 661, 726, 751, 764, 789, 838, 887, 912, 949, 986, 1078, 1127, 1180], 128) := by decide +kernel
theorem dl_168 : decode code 168 = .ok (.aload_n 1, 1) := by decide +kernel
theorem dl_169 : decode code 169 = .ok (.aload_n 0, 1) := by decide +kernel
theorem dl_170 : decode code 170 = .ok (.iload 4, 2) := by decide +kernel
theorem dl_172 : decode code 172 = .ok (.iconst 1, 1) := by decide +kernel
theorem dl_173 : decode code 173 = .ok (.iadd, 1) := by decide +kernel
theorem dl_174 : decode code 174 = .ok (.iaload, 1) := by decide +kernel
theorem dl_175 : decode code 175 = .ok (.i2l, 1) := by decide +kernel
theorem dl_176 : decode code 176 = .ok (.bipush 32, 2) := by decide +kernel
theorem dl_178 : decode code 178 = .ok (.lshl, 1) := by decide +kernel
theorem dl_179 : decode code 179 = .ok (.aload_n 0, 1) := by decide +kernel
theorem dl_180 : decode code 180 = .ok (.iload 4, 2) := by decide +kernel
theorem dl_182 : decode code 182 = .ok (.iconst 2, 1) := by decide +kernel
theorem dl_183 : decode code 183 = .ok (.iadd, 1) := by decide +kernel
theorem dl_184 : decode code 184 = .ok (.iaload, 1) := by decide +kernel
theorem dl_185 : decode code 185 = .ok (.i2l, 1) := by decide +kernel
theorem dl_186 : decode code 186 = .ok (.ldc2_w 19, 3) := by decide +kernel
theorem dl_189 : decode code 189 = .ok (.land, 1) := by decide +kernel
theorem dl_190 : decode code 190 = .ok (.lor, 1) := by decide +kernel
theorem dl_191 : decode code 191 = .ok (.aload_n 0, 1) := by decide +kernel
theorem dl_192 : decode code 192 = .ok (.iload 4, 2) := by decide +kernel
theorem dl_194 : decode code 194 = .ok (.iconst 3, 1) := by decide +kernel
theorem dl_195 : decode code 195 = .ok (.iadd, 1) := by decide +kernel
theorem dl_196 : decode code 196 = .ok (.iaload, 1) := by decide +kernel
theorem dl_197 : decode code 197 = .ok (.i2l, 1) := by decide +kernel
theorem dl_198 : decode code 198 = .ok (.bipush 32, 2) := by decide +kernel
theorem dl_200 : decode code 200 = .ok (.lshl, 1) := by decide +kernel
theorem dl_201 : decode code 201 = .ok (.aload_n 0, 1) := by decide +kernel
theorem dl_202 : decode code 202 = .ok (.iload 4, 2) := by decide +kernel
theorem dl_204 : decode code 204 = .ok (.iconst 4, 1) := by decide +kernel
theorem dl_205 : decode code 205 = .ok (.iadd, 1) := by decide +kernel
theorem dl_206 : decode code 206 = .ok (.iaload, 1) := by decide +kernel
theorem dl_207 : decode code 207 = .ok (.i2l, 1) := by decide +kernel
theorem dl_208 : decode code 208 = .ok (.ldc2_w 19, 3) := by decide +kernel
theorem dl_211 : decode code 211 = .ok (.land, 1) := by decide +kernel
theorem dl_212 : decode code 212 = .ok (.lor, 1) := by decide +kernel
theorem dl_213 : decode code 213 = .ok (.aload_n 0, 1) := by decide +kernel
theorem dl_214 : decode code 214 = .ok (.iload 4, 2) := by decide +kernel
theorem dl_216 : decode code 216 = .ok (.iconst 5, 1) := by decide +kernel
theorem dl_217 : decode code 217 = .ok (.iadd, 1) := by decide +kernel
theorem dl_218 : decode code 218 = .ok (.iaload, 1) := by decide +kernel
theorem dl_219 : decode code 219 = .ok (.i2l, 1) := by decide +kernel
theorem dl_220 : decode code 220 = .ok (.bipush 32, 2) := by decide +kernel
theorem dl_222 : decode code 222 = .ok (.lshl, 1) := by decide +kernel
theorem dl_223 : decode code 223 = .ok (.aload_n 0, 1) := by decide +kernel
theorem dl_224 : decode code 224 = .ok (.iload 4, 2) := by decide +kernel
theorem dl_226 : decode code 226 = .ok (.bipush 6, 2) := by decide +kernel
theorem dl_228 : decode code 228 = .ok (.iadd, 1) := by decide +kernel
theorem dl_229 : decode code 229 = .ok (.iaload, 1) := by decide +kernel
theorem dl_230 : decode code 230 = .ok (.i2l, 1) := by decide +kernel
theorem dl_231 : decode code 231 = .ok (.ldc2_w 19, 3) := by decide +kernel
theorem dl_234 : decode code 234 = .ok (.land, 1) := by decide +kernel
theorem dl_235 : decode code 235 = .ok (.lor, 1) := by decide +kernel
theorem dl_236 : decode code 236 = .ok (.invokevirtual 21, 3) := by decide +kernel
theorem dl_239 : decode code 239 = .ok (.aload_n 2, 1) := by decide +kernel
theorem dl_240 : decode code 240 = .ok (.aload_n 0, 1) := by decide +kernel
theorem dl_241 : decode code 241 = .ok (.iload 4, 2) := by decide +kernel
theorem dl_243 : decode code 243 = .ok (.iconst 1, 1) := by decide +kernel
theorem dl_244 : decode code 244 = .ok (.iadd, 1) := by decide +kernel
theorem dl_245 : decode code 245 = .ok (.iaload, 1) := by decide +kernel
theorem dl_246 : decode code 246 = .ok (.i2l, 1) := by decide +kernel
theorem dl_247 : decode code 247 = .ok (.bipush 32, 2) := by decide +kernel
theorem dl_249 : decode code 249 = .ok (.lshl, 1) := by decide +kernel
theorem dl_250 : decode code 250 = .ok (.aload_n 0, 1) := by decide +kernel
theorem dl_251 : decode code 251 = .ok (.iload 4, 2) := by decide +kernel
theorem dl_253 : decode code 253 = .ok (.iconst 2, 1) := by decide +kernel
theorem dl_254 : decode code 254 = .ok (.iadd, 1) := by decide +kernel
theorem dl_255 : decode code 255 = .ok (.iaload, 1) := by decide +kernel
theorem dl_256 : decode code 256 = .ok (.i2l, 1) := by decide +kernel
theorem dl_257 : decode code 257 = .ok (.ldc2_w 19, 3) := by decide +kernel
theorem dl_260 : decode code 260 = .ok (.land, 1) := by decide +kernel
theorem dl_261 : decode code 261 = .ok (.lor, 1) := by decide +kernel
theorem dl_262 : decode code 262 = .ok (.aload_n 0, 1) := by decide +kernel
theorem dl_263 : decode code 263 = .ok (.iload 4, 2) := by decide +kernel
theorem dl_265 : decode code 265 = .ok (.iconst 3, 1) := by decide +kernel
theorem dl_266 : decode code 266 = .ok (.iadd, 1) := by decide +kernel
theorem dl_267 : decode code 267 = .ok (.iaload, 1) := by decide +kernel
theorem dl_268 : decode code 268 = .ok (.i2l, 1) := by decide +kernel
theorem dl_269 : decode code 269 = .ok (.bipush 32, 2) := by decide +kernel
theorem dl_271 : decode code 271 = .ok (.lshl, 1) := by decide +kernel
theorem dl_272 : decode code 272 = .ok (.aload_n 0, 1) := by decide +kernel
theorem dl_273 : decode code 273 = .ok (.iload 4, 2) := by decide +kernel
theorem dl_275 : decode code 275 = .ok (.iconst 4, 1) := by decide +kernel
theorem dl_276 : decode code 276 = .ok (.iadd, 1) := by decide +kernel
theorem dl_277 : decode code 277 = .ok (.iaload, 1) := by decide +kernel
theorem dl_278 : decode code 278 = .ok (.i2l, 1) := by decide +kernel
theorem dl_279 : decode code 279 = .ok (.ldc2_w 19, 3) := by decide +kernel
theorem dl_282 : decode code 282 = .ok (.land, 1) := by decide +kernel
theorem dl_283 : decode code 283 = .ok (.lor, 1) := by decide +kernel
theorem dl_284 : decode code 284 = .ok (.aload_n 0, 1) := by decide +kernel
theorem dl_285 : decode code 285 = .ok (.iload 4, 2) := by decide +kernel
theorem dl_287 : decode code 287 = .ok (.iconst 5, 1) := by decide +kernel
theorem dl_288 : decode code 288 = .ok (.iadd, 1) := by decide +kernel
theorem dl_289 : decode code 289 = .ok (.iaload, 1) := by decide +kernel
theorem dl_290 : decode code 290 = .ok (.i2l, 1) := by decide +kernel
theorem dl_291 : decode code 291 = .ok (.bipush 32, 2) := by decide +kernel
theorem dl_293 : decode code 293 = .ok (.lshl, 1) := by decide +kernel
theorem dl_294 : decode code 294 = .ok (.aload_n 0, 1) := by decide +kernel
theorem dl_295 : decode code 295 = .ok (.iload 4, 2) := by decide +kernel
theorem dl_297 : decode code 297 = .ok (.bipush 6, 2) := by decide +kernel
theorem dl_299 : decode code 299 = .ok (.iadd, 1) := by decide +kernel
theorem dl_300 : decode code 300 = .ok (.iaload, 1) := by decide +kernel
theorem dl_301 : decode code 301 = .ok (.i2l, 1) := by decide +kernel
theorem dl_302 : decode code 302 = .ok (.ldc2_w 19, 3) := by decide +kernel
theorem dl_305 : decode code 305 = .ok (.land, 1) := by decide +kernel
theorem dl_306 : decode code 306 = .ok (.lor, 1) := by decide +kernel
theorem dl_307 : decode code 307 = .ok (.invokevirtual 25, 3) := by decide +kernel
theorem dl_310 : decode code 310 = .ok (.if_icmp .eq 935, 3) := by decide +kernel
theorem dl_313 : decode code 313 = .ok (.iconst 0, 1) := by decide +kernel
theorem dl_314 : decode code 314 = .ok (.ireturn, 1) := by decide +kernel
theorem dl_315 : decode code 315 = .ok (.aload_n 1, 1) := by decide +kernel
theorem dl_316 : decode code 316 = .ok (.invokevirtual 26, 3) := by decide +kernel
theorem dl_319 : decode code 319 = .ok (.aload_n 2, 1) := by decide +kernel
theorem dl_320 : decode code 320 = .ok (.invokevirtual 30, 3) := by decide +kernel
theorem dl_323 : decode code 323 = .ok (.if_icmp .eq 922, 3) := by decide +kernel
theorem dl_326 : decode code 326 = .ok (.iconst 0, 1) := by decide +kernel
theorem dl_327 : decode code 327 = .ok (.ireturn, 1) := by decide +kernel
theorem dl_328 : decode code 328 = .ok (.aload_n 1, 1) := by decide +kernel
theorem dl_329 : decode code 329 = .ok (.invokevirtual 31, 3) := by decide +kernel
theorem dl_332 : decode code 332 = .ok (.aload_n 2, 1) := by decide +kernel
theorem dl_333 : decode code 333 = .ok (.invokevirtual 34, 3) := by decide +kernel
theorem dl_336 : decode code 336 = .ok (.if_icmp .eq 909, 3) := by decide +kernel
theorem dl_339 : decode code 339 = .ok (.iconst 0, 1) := by decide +kernel
theorem dl_340 : decode code 340 = .ok (.ireturn, 1) := by decide +kernel
theorem dl_341 : decode code 341 = .ok (.aload_n 1, 1) := by decide +kernel
theorem dl_342 : decode code 342 = .ok (.aload_n 0, 1) := by decide +kernel
theorem dl_343 : decode code 343 = .ok (.iload 4, 2) := by decide +kernel
theorem dl_345 : decode code 345 = .ok (.iconst 1, 1) := by decide +kernel
theorem dl_346 : decode code 346 = .ok (.iadd, 1) := by decide +kernel
theorem dl_347 : decode code 347 = .ok (.iaload, 1) := by decide +kernel
theorem dl_348 : decode code 348 = .ok (.aload_n 0, 1) := by decide +kernel
theorem dl_349 : decode code 349 = .ok (.iload 4, 2) := by decide +kernel
theorem dl_351 : decode code 351 = .ok (.iconst 2, 1) := by decide +kernel
theorem dl_352 : decode code 352 = .ok (.iadd, 1) := by decide +kernel
theorem dl_353 : decode code 353 = .ok (.iaload, 1) := by decide +kernel
theorem dl_354 : decode code 354 = .ok (.invokevirtual 35, 3) := by decide +kernel
theorem dl_357 : decode code 357 = .ok (.aload_n 2, 1) := by decide +kernel
theorem dl_358 : decode code 358 = .ok (.aload_n 0, 1) := by decide +kernel
theorem dl_359 : decode code 359 = .ok (.iload 4, 2) := by decide +kernel
theorem dl_361 : decode code 361 = .ok (.iconst 1, 1) := by decide +kernel
theorem dl_362 : decode code 362 = .ok (.iadd, 1) := by decide +kernel
theorem dl_363 : decode code 363 = .ok (.iaload, 1) := by decide +kernel
theorem dl_364 : decode code 364 = .ok (.aload_n 0, 1) := by decide +kernel
theorem dl_365 : decode code 365 = .ok (.iload 4, 2) := by decide +kernel
theorem dl_367 : decode code 367 = .ok (.iconst 2, 1) := by decide +kernel
theorem dl_368 : decode code 368 = .ok (.iadd, 1) := by decide +kernel
theorem dl_369 : decode code 369 = .ok (.iaload, 1) := by decide +kernel
theorem dl_370 : decode code 370 = .ok (.invokevirtual 39, 3) := by decide +kernel
theorem dl_373 : decode code 373 = .ok (.if_icmp .eq 872, 3) := by decide +kernel
theorem dl_376 : decode code 376 = .ok (.iconst 0, 1) := by decide +kernel
theorem dl_377 : decode code 377 = .ok (.ireturn, 1) := by decide +kernel
theorem dl_378 : decode code 378 = .ok (.aload_n 1, 1) := by decide +kernel
theorem dl_379 : decode code 379 = .ok (.aload_n 0, 1) := by decide +kernel
theorem dl_380 : decode code 380 = .ok (.iload 4, 2) := by decide +kernel
theorem dl_382 : decode code 382 = .ok (.iconst 1, 1) := by decide +kernel
theorem dl_383 : decode code 383 = .ok (.iadd, 1) := by decide +kernel
theorem dl_384 : decode code 384 = .ok (.iaload, 1) := by decide +kernel
theorem dl_385 : decode code 385 = .ok (.aload_n 0, 1) := by decide +kernel
theorem dl_386 : decode code 386 = .ok (.iload 4, 2) := by decide +kernel
theorem dl_388 : decode code 388 = .ok (.iconst 2, 1) := by decide +kernel
theorem dl_389 : decode code 389 = .ok (.iadd, 1) := by decide +kernel
theorem dl_390 : decode code 390 = .ok (.iaload, 1) := by decide +kernel
theorem dl_391 : decode code 391 = .ok (.invokevirtual 40, 3) := by decide +kernel
theorem dl_394 : decode code 394 = .ok (.aload_n 2, 1) := by decide +kernel
theorem dl_395 : decode code 395 = .ok (.aload_n 0, 1) := by decide +kernel
theorem dl_396 : decode code 396 = .ok (.iload 4, 2) := by decide +kernel
theorem dl_398 : decode code 398 = .ok (.iconst 1, 1) := by decide +kernel
theorem dl_399 : decode code 399 = .ok (.iadd, 1) := by decide +kernel
theorem dl_400 : decode code 400 = .ok (.iaload, 1) := by decide +kernel
theorem dl_401 : decode code 401 = .ok (.aload_n 0, 1) := by decide +kernel
theorem dl_402 : decode code 402 = .ok (.iload 4, 2) := by decide +kernel
theorem dl_404 : decode code 404 = .ok (.iconst 2, 1) := by decide +kernel
theorem dl_405 : decode code 405 = .ok (.iadd, 1) := by decide +kernel
theorem dl_406 : decode code 406 = .ok (.iaload, 1) := by decide +kernel
theorem dl_407 : decode code 407 = .ok (.invokevirtual 43, 3) := by decide +kernel
theorem dl_410 : decode code 410 = .ok (.if_icmp .eq 835, 3) := by decide +kernel
theorem dl_413 : decode code 413 = .ok (.iconst 0, 1) := by decide +kernel
theorem dl_414 : decode code 414 = .ok (.ireturn, 1) := by decide +kernel
theorem dl_415 : decode code 415 = .ok (.aload_n 1, 1) := by decide +kernel
theorem dl_416 : decode code 416 = .ok (.aload_n 0, 1) := by decide +kernel
theorem dl_417 : decode code 417 = .ok (.iload 4, 2) := by decide +kernel
theorem dl_419 : decode code 419 = .ok (.iconst 1, 1) := by decide +kernel
theorem dl_420 : decode code 420 = .ok (.iadd, 1) := by decide +kernel
theorem dl_421 : decode code 421 = .ok (.iaload, 1) := by decide +kernel
theorem dl_422 : decode code 422 = .ok (.aload_n 0, 1) := by decide +kernel
theorem dl_423 : decode code 423 = .ok (.iload 4, 2) := by decide +kernel
theorem dl_425 : decode code 425 = .ok (.iconst 2, 1) := by decide +kernel
theorem dl_426 : decode code 426 = .ok (.iadd, 1) := by decide +kernel
theorem dl_427 : decode code 427 = .ok (.iaload, 1) := by decide +kernel
theorem dl_428 : decode code 428 = .ok (.invokevirtual 44, 3) := by decide +kernel
theorem dl_431 : decode code 431 = .ok (.aload_n 2, 1) := by decide +kernel
theorem dl_432 : decode code 432 = .ok (.aload_n 0, 1) := by decide +kernel
theorem dl_433 : decode code 433 = .ok (.iload 4, 2) := by decide +kernel
theorem dl_435 : decode code 435 = .ok (.iconst 1, 1) := by decide +kernel
theorem dl_436 : decode code 436 = .ok (.iadd, 1) := by decide +kernel
theorem dl_437 : decode code 437 = .ok (.iaload, 1) := by decide +kernel
theorem dl_438 : decode code 438 = .ok (.aload_n 0, 1) := by decide +kernel
theorem dl_439 : decode code 439 = .ok (.iload 4, 2) := by decide +kernel
theorem dl_441 : decode code 441 = .ok (.iconst 2, 1) := by decide +kernel
theorem dl_442 : decode code 442 = .ok (.iadd, 1) := by decide +kernel
theorem dl_443 : decode code 443 = .ok (.iaload, 1) := by decide +kernel
theorem dl_444 : decode code 444 = .ok (.invokevirtual 47, 3) := by decide +kernel
theorem dl_447 : decode code 447 = .ok (.if_icmp .eq 798, 3) := by decide +kernel
theorem dl_450 : decode code 450 = .ok (.iconst 0, 1) := by decide +kernel
theorem dl_451 : decode code 451 = .ok (.ireturn, 1) := by decide +kernel
theorem dl_452 : decode code 452 = .ok (.aload_n 1, 1) := by decide +kernel
theorem dl_453 : decode code 453 = .ok (.aload_n 0, 1) := by decide +kernel
theorem dl_454 : decode code 454 = .ok (.iload 4, 2) := by decide +kernel
theorem dl_456 : decode code 456 = .ok (.iconst 1, 1) := by decide +kernel
theorem dl_457 : decode code 457 = .ok (.iadd, 1) := by decide +kernel
theorem dl_458 : decode code 458 = .ok (.iaload, 1) := by decide +kernel
theorem dl_459 : decode code 459 = .ok (.aload_n 0, 1) := by decide +kernel
theorem dl_460 : decode code 460 = .ok (.iload 4, 2) := by decide +kernel
theorem dl_462 : decode code 462 = .ok (.iconst 2, 1) := by decide +kernel
theorem dl_463 : decode code 463 = .ok (.iadd, 1) := by decide +kernel
theorem dl_464 : decode code 464 = .ok (.iaload, 1) := by decide +kernel
theorem dl_465 : decode code 465 = .ok (.invokevirtual 48, 3) := by decide +kernel
theorem dl_468 : decode code 468 = .ok (.aload_n 2, 1) := by decide +kernel
theorem dl_469 : decode code 469 = .ok (.aload_n 0, 1) := by decide +kernel
theorem dl_470 : decode code 470 = .ok (.iload 4, 2) := by decide +kernel
theorem dl_472 : decode code 472 = .ok (.iconst 1, 1) := by decide +kernel
theorem dl_473 : decode code 473 = .ok (.iadd, 1) := by decide +kernel
theorem dl_474 : decode code 474 = .ok (.iaload, 1) := by decide +kernel
theorem dl_475 : decode code 475 = .ok (.aload_n 0, 1) := by decide +kernel
theorem dl_476 : decode code 476 = .ok (.iload 4, 2) := by decide +kernel
theorem dl_478 : decode code 478 = .ok (.iconst 2, 1) := by decide +kernel
theorem dl_479 : decode code 479 = .ok (.iadd, 1) := by decide +kernel
theorem dl_480 : decode code 480 = .ok (.iaload, 1) := by decide +kernel
theorem dl_481 : decode code 481 = .ok (.invokevirtual 51, 3) := by decide +kernel
theorem dl_484 : decode code 484 = .ok (.if_icmp .eq 761, 3) := by decide +kernel
theorem dl_487 : decode code 487 = .ok (.iconst 0, 1) := by decide +kernel
theorem dl_488 : decode code 488 = .ok (.ireturn, 1) := by decide +kernel
theorem dl_489 : decode code 489 = .ok (.aload_n 1, 1) := by decide +kernel
theorem dl_490 : decode code 490 = .ok (.aload_n 0, 1) := by decide +kernel
theorem dl_491 : decode code 491 = .ok (.iload 4, 2) := by decide +kernel
theorem dl_493 : decode code 493 = .ok (.iconst 1, 1) := by decide +kernel
theorem dl_494 : decode code 494 = .ok (.iadd, 1) := by decide +kernel
theorem dl_495 : decode code 495 = .ok (.iaload, 1) := by decide +kernel
theorem dl_496 : decode code 496 = .ok (.aload_n 0, 1) := by decide +kernel
theorem dl_497 : decode code 497 = .ok (.iload 4, 2) := by decide +kernel
theorem dl_499 : decode code 499 = .ok (.iconst 2, 1) := by decide +kernel
theorem dl_500 : decode code 500 = .ok (.iadd, 1) := by decide +kernel
theorem dl_501 : decode code 501 = .ok (.iaload, 1) := by decide +kernel
theorem dl_502 : decode code 502 = .ok (.aload_n 0, 1) := by decide +kernel
theorem dl_503 : decode code 503 = .ok (.iload 4, 2) := by decide +kernel
theorem dl_505 : decode code 505 = .ok (.iconst 3, 1) := by decide +kernel
theorem dl_506 : decode code 506 = .ok (.iadd, 1) := by decide +kernel
theorem dl_507 : decode code 507 = .ok (.iaload, 1) := by decide +kernel
theorem dl_508 : decode code 508 = .ok (.invokevirtual 52, 3) := by decide +kernel
theorem dl_511 : decode code 511 = .ok (.aload_n 2, 1) := by decide +kernel
theorem dl_512 : decode code 512 = .ok (.aload_n 0, 1) := by decide +kernel
theorem dl_513 : decode code 513 = .ok (.iload 4, 2) := by decide +kernel
theorem dl_515 : decode code 515 = .ok (.iconst 1, 1) := by decide +kernel
theorem dl_516 : decode code 516 = .ok (.iadd, 1) := by decide +kernel
theorem dl_517 : decode code 517 = .ok (.iaload, 1) := by decide +kernel
theorem dl_518 : decode code 518 = .ok (.aload_n 0, 1) := by decide +kernel
theorem dl_519 : decode code 519 = .ok (.iload 4, 2) := by decide +kernel
theorem dl_521 : decode code 521 = .ok (.iconst 2, 1) := by decide +kernel
theorem dl_522 : decode code 522 = .ok (.iadd, 1) := by decide +kernel
theorem dl_523 : decode code 523 = .ok (.iaload, 1) := by decide +kernel
theorem dl_524 : decode code 524 = .ok (.aload_n 0, 1) := by decide +kernel
theorem dl_525 : decode code 525 = .ok (.iload 4, 2) := by decide +kernel
theorem dl_527 : decode code 527 = .ok (.iconst 3, 1) := by decide +kernel
theorem dl_528 : decode code 528 = .ok (.iadd, 1) := by decide +kernel
theorem dl_529 : decode code 529 = .ok (.iaload, 1) := by decide +kernel
theorem dl_530 : decode code 530 = .ok (.invokevirtual 56, 3) := by decide +kernel
theorem dl_533 : decode code 533 = .ok (.if_icmp .eq 712, 3) := by decide +kernel
theorem dl_536 : decode code 536 = .ok (.iconst 0, 1) := by decide +kernel
theorem dl_537 : decode code 537 = .ok (.ireturn, 1) := by decide +kernel
theorem dl_538 : decode code 538 = .ok (.aload_n 1, 1) := by decide +kernel
theorem dl_539 : decode code 539 = .ok (.aload_n 0, 1) := by decide +kernel
theorem dl_540 : decode code 540 = .ok (.iload 4, 2) := by decide +kernel
theorem dl_542 : decode code 542 = .ok (.iconst 1, 1) := by decide +kernel
theorem dl_543 : decode code 543 = .ok (.iadd, 1) := by decide +kernel
theorem dl_544 : decode code 544 = .ok (.iaload, 1) := by decide +kernel
theorem dl_545 : decode code 545 = .ok (.aload_n 0, 1) := by decide +kernel
theorem dl_546 : decode code 546 = .ok (.iload 4, 2) := by decide +kernel
theorem dl_548 : decode code 548 = .ok (.iconst 2, 1) := by decide +kernel
theorem dl_549 : decode code 549 = .ok (.iadd, 1) := by decide +kernel
theorem dl_550 : decode code 550 = .ok (.iaload, 1) := by decide +kernel
theorem dl_551 : decode code 551 = .ok (.invokevirtual 57, 3) := by decide +kernel
theorem dl_554 : decode code 554 = .ok (.aload_n 2, 1) := by decide +kernel
theorem dl_555 : decode code 555 = .ok (.aload_n 0, 1) := by decide +kernel
theorem dl_556 : decode code 556 = .ok (.iload 4, 2) := by decide +kernel
theorem dl_558 : decode code 558 = .ok (.iconst 1, 1) := by decide +kernel
theorem dl_559 : decode code 559 = .ok (.iadd, 1) := by decide +kernel
theorem dl_560 : decode code 560 = .ok (.iaload, 1) := by decide +kernel
theorem dl_561 : decode code 561 = .ok (.aload_n 0, 1) := by decide +kernel
theorem dl_562 : decode code 562 = .ok (.iload 4, 2) := by decide +kernel
theorem dl_564 : decode code 564 = .ok (.iconst 2, 1) := by decide +kernel
theorem dl_565 : decode code 565 = .ok (.iadd, 1) := by decide +kernel
theorem dl_566 : decode code 566 = .ok (.iaload, 1) := by decide +kernel
theorem dl_567 : decode code 567 = .ok (.invokevirtual 61, 3) := by decide +kernel
theorem dl_570 : decode code 570 = .ok (.if_icmp .eq 675, 3) := by decide +kernel
theorem dl_573 : decode code 573 = .ok (.iconst 0, 1) := by decide +kernel
theorem dl_574 : decode code 574 = .ok (.ireturn, 1) := by decide +kernel
theorem dl_575 : decode code 575 = .ok (.aload_n 1, 1) := by decide +kernel
theorem dl_576 : decode code 576 = .ok (.aload_n 0, 1) := by decide +kernel
theorem dl_577 : decode code 577 = .ok (.iload 4, 2) := by decide +kernel
theorem dl_579 : decode code 579 = .ok (.iconst 1, 1) := by decide +kernel
theorem dl_580 : decode code 580 = .ok (.iadd, 1) := by decide +kernel
theorem dl_581 : decode code 581 = .ok (.iaload, 1) := by decide +kernel
theorem dl_582 : decode code 582 = .ok (.invokevirtual 62, 3) := by decide +kernel
theorem dl_585 : decode code 585 = .ok (.aload_n 2, 1) := by decide +kernel
theorem dl_586 : decode code 586 = .ok (.aload_n 0, 1) := by decide +kernel
theorem dl_587 : decode code 587 = .ok (.iload 4, 2) := by decide +kernel
theorem dl_589 : decode code 589 = .ok (.iconst 1, 1) := by decide +kernel
theorem dl_590 : decode code 590 = .ok (.iadd, 1) := by decide +kernel
theorem dl_591 : decode code 591 = .ok (.iaload, 1) := by decide +kernel
theorem dl_592 : decode code 592 = .ok (.invokevirtual 66, 3) := by decide +kernel
theorem dl_595 : decode code 595 = .ok (.if_icmp .eq 650, 3) := by decide +kernel
theorem dl_598 : decode code 598 = .ok (.iconst 0, 1) := by decide +kernel
theorem dl_599 : decode code 599 = .ok (.ireturn, 1) := by decide +kernel
theorem dl_600 : decode code 600 = .ok (.aload_n 1, 1) := by decide +kernel
theorem dl_601 : decode code 601 = .ok (.aload_n 0, 1) := by decide +kernel
theorem dl_602 : decode code 602 = .ok (.iload 4, 2) := by decide +kernel
theorem dl_604 : decode code 604 = .ok (.iconst 1, 1) := by decide +kernel
theorem dl_605 : decode code 605 = .ok (.iadd, 1) := by decide +kernel
theorem dl_606 : decode code 606 = .ok (.iaload, 1) := by decide +kernel
theorem dl_607 : decode code 607 = .ok (.aload_n 0, 1) := by decide +kernel
theorem dl_608 : decode code 608 = .ok (.iload 4, 2) := by decide +kernel
theorem dl_610 : decode code 610 = .ok (.iconst 2, 1) := by decide +kernel
theorem dl_611 : decode code 611 = .ok (.iadd, 1) := by decide +kernel
theorem dl_612 : decode code 612 = .ok (.iaload, 1) := by decide +kernel
theorem dl_613 : decode code 613 = .ok (.invokevirtual 67, 3) := by decide +kernel
theorem dl_616 : decode code 616 = .ok (.aload_n 2, 1) := by decide +kernel
theorem dl_617 : decode code 617 = .ok (.aload_n 0, 1) := by decide +kernel
theorem dl_618 : decode code 618 = .ok (.iload 4, 2) := by decide +kernel
theorem dl_620 : decode code 620 = .ok (.iconst 1, 1) := by decide +kernel
theorem dl_621 : decode code 621 = .ok (.iadd, 1) := by decide +kernel
theorem dl_622 : decode code 622 = .ok (.iaload, 1) := by decide +kernel
theorem dl_623 : decode code 623 = .ok (.aload_n 0, 1) := by decide +kernel
theorem dl_624 : decode code 624 = .ok (.iload 4, 2) := by decide +kernel
theorem dl_626 : decode code 626 = .ok (.iconst 2, 1) := by decide +kernel
theorem dl_627 : decode code 627 = .ok (.iadd, 1) := by decide +kernel
theorem dl_628 : decode code 628 = .ok (.iaload, 1) := by decide +kernel
theorem dl_629 : decode code 629 = .ok (.invokevirtual 70, 3) := by decide +kernel
theorem dl_632 : decode code 632 = .ok (.if_icmp .eq 613, 3) := by decide +kernel
theorem dl_635 : decode code 635 = .ok (.iconst 0, 1) := by decide +kernel
theorem dl_636 : decode code 636 = .ok (.ireturn, 1) := by decide +kernel
theorem dl_637 : decode code 637 = .ok (.aload_n 1, 1) := by decide +kernel
theorem dl_638 : decode code 638 = .ok (.invokevirtual 71, 3) := by decide +kernel
theorem dl_641 : decode code 641 = .ok (.aload_n 2, 1) := by decide +kernel
theorem dl_642 : decode code 642 = .ok (.invokevirtual 75, 3) := by decide +kernel
theorem dl_645 : decode code 645 = .ok (.if_icmp .eq 600, 3) := by decide +kernel
theorem dl_648 : decode code 648 = .ok (.iconst 0, 1) := by decide +kernel
theorem dl_649 : decode code 649 = .ok (.ireturn, 1) := by decide +kernel
theorem dl_650 : decode code 650 = .ok (.aload_n 1, 1) := by decide +kernel
theorem dl_651 : decode code 651 = .ok (.invokevirtual 76, 3) := by decide +kernel
theorem dl_654 : decode code 654 = .ok (.aload_n 2, 1) := by decide +kernel
theorem dl_655 : decode code 655 = .ok (.invokevirtual 79, 3) := by decide +kernel
theorem dl_658 : decode code 658 = .ok (.if_icmp .eq 587, 3) := by decide +kernel
theorem dl_661 : decode code 661 = .ok (.iconst 0, 1) := by decide +kernel
theorem dl_662 : decode code 662 = .ok (.ireturn, 1) := by decide +kernel
theorem dl_663 : decode code 663 = .ok (.aload_n 1, 1) := by decide +kernel
theorem dl_664 : decode code 664 = .ok (.invokevirtual 80, 3) := by decide +kernel
theorem dl_667 : decode code 667 = .ok (.aload_n 2, 1) := by decide +kernel
theorem dl_668 : decode code 668 = .ok (.invokevirtual 83, 3) := by decide +kernel
theorem dl_671 : decode code 671 = .ok (.if_icmp .eq 574, 3) := by decide +kernel
theorem dl_674 : decode code 674 = .ok (.iconst 0, 1) := by decide +kernel
theorem dl_675 : decode code 675 = .ok (.ireturn, 1) := by decide +kernel
theorem dl_676 : decode code 676 = .ok (.aload_n 1, 1) := by decide +kernel
theorem dl_677 : decode code 677 = .ok (.aload_n 0, 1) := by decide +kernel
theorem dl_678 : decode code 678 = .ok (.iload 4, 2) := by decide +kernel
theorem dl_680 : decode code 680 = .ok (.iconst 1, 1) := by decide +kernel
theorem dl_681 : decode code 681 = .ok (.iadd, 1) := by decide +kernel
theorem dl_682 : decode code 682 = .ok (.iaload, 1) := by decide +kernel
theorem dl_683 : decode code 683 = .ok (.invokevirtual 84, 3) := by decide +kernel
theorem dl_686 : decode code 686 = .ok (.aload_n 2, 1) := by decide +kernel
theorem dl_687 : decode code 687 = .ok (.aload_n 0, 1) := by decide +kernel
theorem dl_688 : decode code 688 = .ok (.iload 4, 2) := by decide +kernel
theorem dl_690 : decode code 690 = .ok (.iconst 1, 1) := by decide +kernel
theorem dl_691 : decode code 691 = .ok (.iadd, 1) := by decide +kernel
theorem dl_692 : decode code 692 = .ok (.iaload, 1) := by decide +kernel
theorem dl_693 : decode code 693 = .ok (.invokevirtual 88, 3) := by decide +kernel
theorem dl_696 : decode code 696 = .ok (.if_icmp .eq 549, 3) := by decide +kernel
theorem dl_699 : decode code 699 = .ok (.iconst 0, 1) := by decide +kernel
theorem dl_700 : decode code 700 = .ok (.ireturn, 1) := by decide +kernel
theorem dl_701 : decode code 701 = .ok (.aload_n 1, 1) := by decide +kernel
theorem dl_702 : decode code 702 = .ok (.aload_n 0, 1) := by decide +kernel
theorem dl_703 : decode code 703 = .ok (.iload 4, 2) := by decide +kernel
theorem dl_705 : decode code 705 = .ok (.iconst 1, 1) := by decide +kernel
theorem dl_706 : decode code 706 = .ok (.iadd, 1) := by decide +kernel
theorem dl_707 : decode code 707 = .ok (.iaload, 1) := by decide +kernel
theorem dl_708 : decode code 708 = .ok (.aload_n 0, 1) := by decide +kernel
theorem dl_709 : decode code 709 = .ok (.iload 4, 2) := by decide +kernel
theorem dl_711 : decode code 711 = .ok (.iconst 2, 1) := by decide +kernel
theorem dl_712 : decode code 712 = .ok (.iadd, 1) := by decide +kernel
theorem dl_713 : decode code 713 = .ok (.iaload, 1) := by decide +kernel
theorem dl_714 : decode code 714 = .ok (.aload_n 0, 1) := by decide +kernel
theorem dl_715 : decode code 715 = .ok (.iload 4, 2) := by decide +kernel
theorem dl_717 : decode code 717 = .ok (.iconst 3, 1) := by decide +kernel
theorem dl_718 : decode code 718 = .ok (.iadd, 1) := by decide +kernel
theorem dl_719 : decode code 719 = .ok (.iaload, 1) := by decide +kernel
theorem dl_720 : decode code 720 = .ok (.ifCond .eq 7, 3) := by decide +kernel
theorem dl_723 : decode code 723 = .ok (.iconst 1, 1) := by decide +kernel
theorem dl_724 : decode code 724 = .ok (.goto 4, 3) := by decide +kernel
theorem dl_727 : decode code 727 = .ok (.iconst 0, 1) := by decide +kernel
theorem dl_728 : decode code 728 = .ok (.invokevirtual 89, 3) := by decide +kernel
theorem dl_731 : decode code 731 = .ok (.aload_n 2, 1) := by decide +kernel
theorem dl_732 : decode code 732 = .ok (.aload_n 0, 1) := by decide +kernel
theorem dl_733 : decode code 733 = .ok (.iload 4, 2) := by decide +kernel
theorem dl_735 : decode code 735 = .ok (.iconst 1, 1) := by decide +kernel
theorem dl_736 : decode code 736 = .ok (.iadd, 1) := by decide +kernel
theorem dl_737 : decode code 737 = .ok (.iaload, 1) := by decide +kernel
theorem dl_738 : decode code 738 = .ok (.aload_n 0, 1) := by decide +kernel
theorem dl_739 : decode code 739 = .ok (.iload 4, 2) := by decide +kernel
theorem dl_741 : decode code 741 = .ok (.iconst 2, 1) := by decide +kernel
theorem dl_742 : decode code 742 = .ok (.iadd, 1) := by decide +kernel
theorem dl_743 : decode code 743 = .ok (.iaload, 1) := by decide +kernel
theorem dl_744 : decode code 744 = .ok (.aload_n 0, 1) := by decide +kernel
theorem dl_745 : decode code 745 = .ok (.iload 4, 2) := by decide +kernel
theorem dl_747 : decode code 747 = .ok (.iconst 3, 1) := by decide +kernel
theorem dl_748 : decode code 748 = .ok (.iadd, 1) := by decide +kernel
theorem dl_749 : decode code 749 = .ok (.iaload, 1) := by decide +kernel
theorem dl_750 : decode code 750 = .ok (.ifCond .eq 7, 3) := by decide +kernel
theorem dl_753 : decode code 753 = .ok (.iconst 1, 1) := by decide +kernel
theorem dl_754 : decode code 754 = .ok (.goto 4, 3) := by decide +kernel
theorem dl_757 : decode code 757 = .ok (.iconst 0, 1) := by decide +kernel
theorem dl_758 : decode code 758 = .ok (.invokevirtual 93, 3) := by decide +kernel
theorem dl_761 : decode code 761 = .ok (.if_icmp .eq 484, 3) := by decide +kernel
theorem dl_764 : decode code 764 = .ok (.iconst 0, 1) := by decide +kernel
theorem dl_765 : decode code 765 = .ok (.ireturn, 1) := by decide +kernel
theorem dl_766 : decode code 766 = .ok (.aload_n 1, 1) := by decide +kernel
theorem dl_767 : decode code 767 = .ok (.aload_n 0, 1) := by decide +kernel
theorem dl_768 : decode code 768 = .ok (.iload 4, 2) := by decide +kernel
theorem dl_770 : decode code 770 = .ok (.iconst 1, 1) := by decide +kernel
theorem dl_771 : decode code 771 = .ok (.iadd, 1) := by decide +kernel
theorem dl_772 : decode code 772 = .ok (.iaload, 1) := by decide +kernel
theorem dl_773 : decode code 773 = .ok (.invokevirtual 94, 3) := by decide +kernel
theorem dl_776 : decode code 776 = .ok (.aload_n 2, 1) := by decide +kernel
theorem dl_777 : decode code 777 = .ok (.aload_n 0, 1) := by decide +kernel
theorem dl_778 : decode code 778 = .ok (.iload 4, 2) := by decide +kernel
theorem dl_780 : decode code 780 = .ok (.iconst 1, 1) := by decide +kernel
theorem dl_781 : decode code 781 = .ok (.iadd, 1) := by decide +kernel
theorem dl_782 : decode code 782 = .ok (.iaload, 1) := by decide +kernel
theorem dl_783 : decode code 783 = .ok (.invokevirtual 97, 3) := by decide +kernel
theorem dl_786 : decode code 786 = .ok (.if_icmp .eq 459, 3) := by decide +kernel
theorem dl_789 : decode code 789 = .ok (.iconst 0, 1) := by decide +kernel
theorem dl_790 : decode code 790 = .ok (.ireturn, 1) := by decide +kernel
theorem dl_791 : decode code 791 = .ok (.aload_n 1, 1) := by decide +kernel
theorem dl_792 : decode code 792 = .ok (.invokevirtual 98, 3) := by decide +kernel
theorem dl_795 : decode code 795 = .ok (.aload_n 2, 1) := by decide +kernel
theorem dl_796 : decode code 796 = .ok (.invokevirtual 101, 3) := by decide +kernel
theorem dl_799 : decode code 799 = .ok (.if_icmp .eq 446, 3) := by decide +kernel
theorem dl_802 : decode code 802 = .ok (.iconst 0, 1) := by decide +kernel
theorem dl_803 : decode code 803 = .ok (.ireturn, 1) := by decide +kernel
theorem dl_804 : decode code 804 = .ok (.aload_n 1, 1) := by decide +kernel
theorem dl_805 : decode code 805 = .ok (.aload_n 0, 1) := by decide +kernel
theorem dl_806 : decode code 806 = .ok (.iload 4, 2) := by decide +kernel
theorem dl_808 : decode code 808 = .ok (.iconst 1, 1) := by decide +kernel
theorem dl_809 : decode code 809 = .ok (.iadd, 1) := by decide +kernel
theorem dl_810 : decode code 810 = .ok (.iaload, 1) := by decide +kernel
theorem dl_811 : decode code 811 = .ok (.invokevirtual 102, 3) := by decide +kernel
theorem dl_814 : decode code 814 = .ok (.aload_n 2, 1) := by decide +kernel
theorem dl_815 : decode code 815 = .ok (.aload_n 0, 1) := by decide +kernel
theorem dl_816 : decode code 816 = .ok (.iload 4, 2) := by decide +kernel
theorem dl_818 : decode code 818 = .ok (.iconst 1, 1) := by decide +kernel
theorem dl_819 : decode code 819 = .ok (.iadd, 1) := by decide +kernel
theorem dl_820 : decode code 820 = .ok (.iaload, 1) := by decide +kernel
theorem dl_821 : decode code 821 = .ok (.invokevirtual 105, 3) := by decide +kernel
theorem dl_824 : decode code 824 = .ok (.if_icmp .eq 421, 3) := by decide +kernel
theorem dl_827 : decode code 827 = .ok (.iconst 0, 1) := by decide +kernel
theorem dl_828 : decode code 828 = .ok (.ireturn, 1) := by decide +kernel
theorem dl_829 : decode code 829 = .ok (.aload_n 1, 1) := by decide +kernel
theorem dl_830 : decode code 830 = .ok (.aload_n 0, 1) := by decide +kernel
theorem dl_831 : decode code 831 = .ok (.iload 4, 2) := by decide +kernel
theorem dl_833 : decode code 833 = .ok (.iconst 1, 1) := by decide +kernel
theorem dl_834 : decode code 834 = .ok (.iadd, 1) := by decide +kernel
theorem dl_835 : decode code 835 = .ok (.iaload, 1) := by decide +kernel
theorem dl_836 : decode code 836 = .ok (.aload_n 0, 1) := by decide +kernel
theorem dl_837 : decode code 837 = .ok (.iload 4, 2) := by decide +kernel
theorem dl_839 : decode code 839 = .ok (.iconst 2, 1) := by decide +kernel
theorem dl_840 : decode code 840 = .ok (.iadd, 1) := by decide +kernel
theorem dl_841 : decode code 841 = .ok (.iaload, 1) := by decide +kernel
theorem dl_842 : decode code 842 = .ok (.aload_n 0, 1) := by decide +kernel
theorem dl_843 : decode code 843 = .ok (.iload 4, 2) := by decide +kernel
theorem dl_845 : decode code 845 = .ok (.iconst 3, 1) := by decide +kernel
theorem dl_846 : decode code 846 = .ok (.iadd, 1) := by decide +kernel
theorem dl_847 : decode code 847 = .ok (.iaload, 1) := by decide +kernel
theorem dl_848 : decode code 848 = .ok (.invokevirtual 106, 3) := by decide +kernel
theorem dl_851 : decode code 851 = .ok (.aload_n 2, 1) := by decide +kernel
theorem dl_852 : decode code 852 = .ok (.aload_n 0, 1) := by decide +kernel
theorem dl_853 : decode code 853 = .ok (.iload 4, 2) := by decide +kernel
theorem dl_855 : decode code 855 = .ok (.iconst 1, 1) := by decide +kernel
theorem dl_856 : decode code 856 = .ok (.iadd, 1) := by decide +kernel
theorem dl_857 : decode code 857 = .ok (.iaload, 1) := by decide +kernel
theorem dl_858 : decode code 858 = .ok (.aload_n 0, 1) := by decide +kernel
theorem dl_859 : decode code 859 = .ok (.iload 4, 2) := by decide +kernel
theorem dl_861 : decode code 861 = .ok (.iconst 2, 1) := by decide +kernel
theorem dl_862 : decode code 862 = .ok (.iadd, 1) := by decide +kernel
theorem dl_863 : decode code 863 = .ok (.iaload, 1) := by decide +kernel
theorem dl_864 : decode code 864 = .ok (.aload_n 0, 1) := by decide +kernel
theorem dl_865 : decode code 865 = .ok (.iload 4, 2) := by decide +kernel
theorem dl_867 : decode code 867 = .ok (.iconst 3, 1) := by decide +kernel
theorem dl_868 : decode code 868 = .ok (.iadd, 1) := by decide +kernel
theorem dl_869 : decode code 869 = .ok (.iaload, 1) := by decide +kernel
theorem dl_870 : decode code 870 = .ok (.invokevirtual 109, 3) := by decide +kernel
theorem dl_873 : decode code 873 = .ok (.if_icmp .eq 372, 3) := by decide +kernel
theorem dl_876 : decode code 876 = .ok (.iconst 0, 1) := by decide +kernel
theorem dl_877 : decode code 877 = .ok (.ireturn, 1) := by decide +kernel
theorem dl_878 : decode code 878 = .ok (.aload_n 1, 1) := by decide +kernel
theorem dl_879 : decode code 879 = .ok (.aload_n 0, 1) := by decide +kernel
theorem dl_880 : decode code 880 = .ok (.iload 4, 2) := by decide +kernel
theorem dl_882 : decode code 882 = .ok (.iconst 1, 1) := by decide +kernel
theorem dl_883 : decode code 883 = .ok (.iadd, 1) := by decide +kernel
theorem dl_884 : decode code 884 = .ok (.iaload, 1) := by decide +kernel
theorem dl_885 : decode code 885 = .ok (.aload_n 0, 1) := by decide +kernel
theorem dl_886 : decode code 886 = .ok (.iload 4, 2) := by decide +kernel
theorem dl_888 : decode code 888 = .ok (.iconst 2, 1) := by decide +kernel
theorem dl_889 : decode code 889 = .ok (.iadd, 1) := by decide +kernel
theorem dl_890 : decode code 890 = .ok (.iaload, 1) := by decide +kernel
theorem dl_891 : decode code 891 = .ok (.aload_n 0, 1) := by decide +kernel
theorem dl_892 : decode code 892 = .ok (.iload 4, 2) := by decide +kernel
theorem dl_894 : decode code 894 = .ok (.iconst 3, 1) := by decide +kernel
theorem dl_895 : decode code 895 = .ok (.iadd, 1) := by decide +kernel
theorem dl_896 : decode code 896 = .ok (.iaload, 1) := by decide +kernel
theorem dl_897 : decode code 897 = .ok (.invokevirtual 110, 3) := by decide +kernel
theorem dl_900 : decode code 900 = .ok (.aload_n 2, 1) := by decide +kernel
theorem dl_901 : decode code 901 = .ok (.aload_n 0, 1) := by decide +kernel
theorem dl_902 : decode code 902 = .ok (.iload 4, 2) := by decide +kernel
theorem dl_904 : decode code 904 = .ok (.iconst 1, 1) := by decide +kernel
theorem dl_905 : decode code 905 = .ok (.iadd, 1) := by decide +kernel
theorem dl_906 : decode code 906 = .ok (.iaload, 1) := by decide +kernel
theorem dl_907 : decode code 907 = .ok (.aload_n 0, 1) := by decide +kernel
theorem dl_908 : decode code 908 = .ok (.iload 4, 2) := by decide +kernel
theorem dl_910 : decode code 910 = .ok (.iconst 2, 1) := by decide +kernel
theorem dl_911 : decode code 911 = .ok (.iadd, 1) := by decide +kernel
theorem dl_912 : decode code 912 = .ok (.iaload, 1) := by decide +kernel
theorem dl_913 : decode code 913 = .ok (.aload_n 0, 1) := by decide +kernel
theorem dl_914 : decode code 914 = .ok (.iload 4, 2) := by decide +kernel
theorem dl_916 : decode code 916 = .ok (.iconst 3, 1) := by decide +kernel
theorem dl_917 : decode code 917 = .ok (.iadd, 1) := by decide +kernel
theorem dl_918 : decode code 918 = .ok (.iaload, 1) := by decide +kernel
theorem dl_919 : decode code 919 = .ok (.invokevirtual 113, 3) := by decide +kernel
theorem dl_922 : decode code 922 = .ok (.if_icmp .eq 323, 3) := by decide +kernel
theorem dl_925 : decode code 925 = .ok (.iconst 0, 1) := by decide +kernel
theorem dl_926 : decode code 926 = .ok (.ireturn, 1) := by decide +kernel
theorem dl_927 : decode code 927 = .ok (.aload_n 1, 1) := by decide +kernel
theorem dl_928 : decode code 928 = .ok (.aload_n 0, 1) := by decide +kernel
theorem dl_929 : decode code 929 = .ok (.iload 4, 2) := by decide +kernel
theorem dl_931 : decode code 931 = .ok (.iconst 1, 1) := by decide +kernel
theorem dl_932 : decode code 932 = .ok (.iadd, 1) := by decide +kernel
theorem dl_933 : decode code 933 = .ok (.iaload, 1) := by decide +kernel
theorem dl_934 : decode code 934 = .ok (.invokevirtual 114, 3) := by decide +kernel
theorem dl_937 : decode code 937 = .ok (.aload_n 2, 1) := by decide +kernel
theorem dl_938 : decode code 938 = .ok (.aload_n 0, 1) := by decide +kernel
theorem dl_939 : decode code 939 = .ok (.iload 4, 2) := by decide +kernel
theorem dl_941 : decode code 941 = .ok (.iconst 1, 1) := by decide +kernel
theorem dl_942 : decode code 942 = .ok (.iadd, 1) := by decide +kernel
theorem dl_943 : decode code 943 = .ok (.iaload, 1) := by decide +kernel
theorem dl_944 : decode code 944 = .ok (.invokevirtual 117, 3) := by decide +kernel
theorem dl_947 : decode code 947 = .ok (.if_icmp .eq 298, 3) := by decide +kernel
theorem dl_950 : decode code 950 = .ok (.iconst 0, 1) := by decide +kernel
theorem dl_951 : decode code 951 = .ok (.ireturn, 1) := by decide +kernel
theorem dl_952 : decode code 952 = .ok (.aload_n 1, 1) := by decide +kernel
theorem dl_953 : decode code 953 = .ok (.aload_n 0, 1) := by decide +kernel
theorem dl_954 : decode code 954 = .ok (.iload 4, 2) := by decide +kernel
theorem dl_956 : decode code 956 = .ok (.iconst 1, 1) := by decide +kernel
theorem dl_957 : decode code 957 = .ok (.iadd, 1) := by decide +kernel
theorem dl_958 : decode code 958 = .ok (.iaload, 1) := by decide +kernel
theorem dl_959 : decode code 959 = .ok (.aload_n 0, 1) := by decide +kernel
theorem dl_960 : decode code 960 = .ok (.iload 4, 2) := by decide +kernel
theorem dl_962 : decode code 962 = .ok (.iconst 2, 1) := by decide +kernel
theorem dl_963 : decode code 963 = .ok (.iadd, 1) := by decide +kernel
theorem dl_964 : decode code 964 = .ok (.iaload, 1) := by decide +kernel
theorem dl_965 : decode code 965 = .ok (.invokevirtual 118, 3) := by decide +kernel
theorem dl_968 : decode code 968 = .ok (.aload_n 2, 1) := by decide +kernel
theorem dl_969 : decode code 969 = .ok (.aload_n 0, 1) := by decide +kernel
theorem dl_970 : decode code 970 = .ok (.iload 4, 2) := by decide +kernel
theorem dl_972 : decode code 972 = .ok (.iconst 1, 1) := by decide +kernel
theorem dl_973 : decode code 973 = .ok (.iadd, 1) := by decide +kernel
theorem dl_974 : decode code 974 = .ok (.iaload, 1) := by decide +kernel
theorem dl_975 : decode code 975 = .ok (.aload_n 0, 1) := by decide +kernel
theorem dl_976 : decode code 976 = .ok (.iload 4, 2) := by decide +kernel
theorem dl_978 : decode code 978 = .ok (.iconst 2, 1) := by decide +kernel
theorem dl_979 : decode code 979 = .ok (.iadd, 1) := by decide +kernel
theorem dl_980 : decode code 980 = .ok (.iaload, 1) := by decide +kernel
theorem dl_981 : decode code 981 = .ok (.invokevirtual 121, 3) := by decide +kernel
theorem dl_984 : decode code 984 = .ok (.if_icmp .eq 261, 3) := by decide +kernel
theorem dl_987 : decode code 987 = .ok (.iconst 0, 1) := by decide +kernel
theorem dl_988 : decode code 988 = .ok (.ireturn, 1) := by decide +kernel
theorem dl_989 : decode code 989 = .ok (.aload_n 1, 1) := by decide +kernel
theorem dl_990 : decode code 990 = .ok (.aload_n 0, 1) := by decide +kernel
theorem dl_991 : decode code 991 = .ok (.iload 4, 2) := by decide +kernel
theorem dl_993 : decode code 993 = .ok (.iconst 1, 1) := by decide +kernel
theorem dl_994 : decode code 994 = .ok (.iadd, 1) := by decide +kernel
theorem dl_995 : decode code 995 = .ok (.iaload, 1) := by decide +kernel
theorem dl_996 : decode code 996 = .ok (.aload_n 0, 1) := by decide +kernel
theorem dl_997 : decode code 997 = .ok (.iload 4, 2) := by decide +kernel
theorem dl_999 : decode code 999 = .ok (.iconst 2, 1) := by decide +kernel
theorem dl_1000 : decode code 1000 = .ok (.iadd, 1) := by decide +kernel
theorem dl_1001 : decode code 1001 = .ok (.iaload, 1) := by decide +kernel
theorem dl_1002 : decode code 1002 = .ok (.invokevirtual 122, 3) := by decide +kernel
theorem dl_1005 : decode code 1005 = .ok (.aload_n 2, 1) := by decide +kernel
theorem dl_1006 : decode code 1006 = .ok (.aload_n 0, 1) := by decide +kernel
theorem dl_1007 : decode code 1007 = .ok (.iload 4, 2) := by decide +kernel
theorem dl_1009 : decode code 1009 = .ok (.iconst 1, 1) := by decide +kernel
theorem dl_1010 : decode code 1010 = .ok (.iadd, 1) := by decide +kernel
theorem dl_1011 : decode code 1011 = .ok (.iaload, 1) := by decide +kernel
theorem dl_1012 : decode code 1012 = .ok (.aload_n 0, 1) := by decide +kernel
theorem dl_1013 : decode code 1013 = .ok (.iload 4, 2) := by decide +kernel
theorem dl_1015 : decode code 1015 = .ok (.iconst 2, 1) := by decide +kernel
theorem dl_1016 : decode code 1016 = .ok (.iadd, 1) := by decide +kernel
theorem dl_1017 : decode code 1017 = .ok (.iaload, 1) := by decide +kernel
theorem dl_1018 : decode code 1018 = .ok (.invokevirtual 125, 3) := by decide +kernel
theorem dl_1021 : decode code 1021 = .ok (.if_icmp .eq 224, 3) := by decide +kernel
theorem dl_1024 : decode code 1024 = .ok (.iconst 0, 1) := by decide +kernel
theorem dl_1025 : decode code 1025 = .ok (.ireturn, 1) := by decide +kernel
theorem dl_1026 : decode code 1026 = .ok (.aload_n 1, 1) := by decide +kernel
theorem dl_1027 : decode code 1027 = .ok (.aload_n 0, 1) := by decide +kernel
theorem dl_1028 : decode code 1028 = .ok (.iload 4, 2) := by decide +kernel
theorem dl_1030 : decode code 1030 = .ok (.iconst 1, 1) := by decide +kernel
theorem dl_1031 : decode code 1031 = .ok (.iadd, 1) := by decide +kernel
theorem dl_1032 : decode code 1032 = .ok (.iaload, 1) := by decide +kernel
theorem dl_1033 : decode code 1033 = .ok (.aload_n 0, 1) := by decide +kernel
theorem dl_1034 : decode code 1034 = .ok (.iload 4, 2) := by decide +kernel
theorem dl_1036 : decode code 1036 = .ok (.iconst 2, 1) := by decide +kernel
theorem dl_1037 : decode code 1037 = .ok (.iadd, 1) := by decide +kernel
theorem dl_1038 : decode code 1038 = .ok (.iaload, 1) := by decide +kernel
theorem dl_1039 : decode code 1039 = .ok (.aload_n 0, 1) := by decide +kernel
theorem dl_1040 : decode code 1040 = .ok (.iload 4, 2) := by decide +kernel
theorem dl_1042 : decode code 1042 = .ok (.iconst 3, 1) := by decide +kernel
theorem dl_1043 : decode code 1043 = .ok (.iadd, 1) := by decide +kernel
theorem dl_1044 : decode code 1044 = .ok (.iaload, 1) := by decide +kernel
theorem dl_1045 : decode code 1045 = .ok (.aload_n 0, 1) := by decide +kernel
theorem dl_1046 : decode code 1046 = .ok (.iload 4, 2) := by decide +kernel
theorem dl_1048 : decode code 1048 = .ok (.iconst 4, 1) := by decide +kernel
theorem dl_1049 : decode code 1049 = .ok (.iadd, 1) := by decide +kernel
theorem dl_1050 : decode code 1050 = .ok (.iaload, 1) := by decide +kernel
theorem dl_1051 : decode code 1051 = .ok (.aload_n 3, 1) := by decide +kernel
theorem dl_1052 : decode code 1052 = .ok (.invokestatic 126, 3) := by decide +kernel
theorem dl_1055 : decode code 1055 = .ok (.istore 5, 2) := by decide +kernel
theorem dl_1057 : decode code 1057 = .ok (.aload_n 2, 1) := by decide +kernel
theorem dl_1058 : decode code 1058 = .ok (.aload_n 0, 1) := by decide +kernel
theorem dl_1059 : decode code 1059 = .ok (.iload 4, 2) := by decide +kernel
theorem dl_1061 : decode code 1061 = .ok (.iconst 1, 1) := by decide +kernel
theorem dl_1062 : decode code 1062 = .ok (.iadd, 1) := by decide +kernel
theorem dl_1063 : decode code 1063 = .ok (.iaload, 1) := by decide +kernel
theorem dl_1064 : decode code 1064 = .ok (.aload_n 0, 1) := by decide +kernel
theorem dl_1065 : decode code 1065 = .ok (.iload 4, 2) := by decide +kernel
theorem dl_1067 : decode code 1067 = .ok (.iconst 2, 1) := by decide +kernel
theorem dl_1068 : decode code 1068 = .ok (.iadd, 1) := by decide +kernel
theorem dl_1069 : decode code 1069 = .ok (.iaload, 1) := by decide +kernel
theorem dl_1070 : decode code 1070 = .ok (.aload_n 0, 1) := by decide +kernel
theorem dl_1071 : decode code 1071 = .ok (.iload 4, 2) := by decide +kernel
theorem dl_1073 : decode code 1073 = .ok (.iconst 3, 1) := by decide +kernel
theorem dl_1074 : decode code 1074 = .ok (.iadd, 1) := by decide +kernel
theorem dl_1075 : decode code 1075 = .ok (.iaload, 1) := by decide +kernel
theorem dl_1076 : decode code 1076 = .ok (.aload_n 0, 1) := by decide +kernel
theorem dl_1077 : decode code 1077 = .ok (.iload 4, 2) := by decide +kernel
theorem dl_1079 : decode code 1079 = .ok (.iconst 4, 1) := by decide +kernel
theorem dl_1080 : decode code 1080 = .ok (.iadd, 1) := by decide +kernel
theorem dl_1081 : decode code 1081 = .ok (.iaload, 1) := by decide +kernel
theorem dl_1082 : decode code 1082 = .ok (.invokevirtual 131, 3) := by decide +kernel
theorem dl_1085 : decode code 1085 = .ok (.istore 6, 2) := by decide +kernel
theorem dl_1087 : decode code 1087 = .ok (.aload_n 2, 1) := by decide +kernel
theorem dl_1088 : decode code 1088 = .ok (.invokevirtual 132, 3) := by decide +kernel
theorem dl_1091 : decode code 1091 = .ok (.iload 5, 2) := by decide +kernel
theorem dl_1093 : decode code 1093 = .ok (.if_icmp .eq 5, 3) := by decide +kernel
theorem dl_1096 : decode code 1096 = .ok (.iconst 0, 1) := by decide +kernel
theorem dl_1097 : decode code 1097 = .ok (.ireturn, 1) := by decide +kernel
theorem dl_1098 : decode code 1098 = .ok (.iload 5, 2) := by decide +kernel
theorem dl_1100 : decode code 1100 = .ok (.ifCond .ne 15, 3) := by decide +kernel
theorem dl_1103 : decode code 1103 = .ok (.aload_n 3, 1) := by decide +kernel
theorem dl_1104 : decode code 1104 = .ok (.iconst 0, 1) := by decide +kernel
theorem dl_1105 : decode code 1105 = .ok (.laload, 1) := by decide +kernel
theorem dl_1106 : decode code 1106 = .ok (.iload 6, 2) := by decide +kernel
theorem dl_1108 : decode code 1108 = .ok (.i2l, 1) := by decide +kernel
theorem dl_1109 : decode code 1109 = .ok (.lcmp, 1) := by decide +kernel
theorem dl_1110 : decode code 1110 = .ok (.ifCond .eq 5, 3) := by decide +kernel
theorem dl_1113 : decode code 1113 = .ok (.iconst 0, 1) := by decide +kernel
theorem dl_1114 : decode code 1114 = .ok (.ireturn, 1) := by decide +kernel
theorem dl_1115 : decode code 1115 = .ok (.goto 130, 3) := by decide +kernel
theorem dl_1118 : decode code 1118 = .ok (.aload_n 1, 1) := by decide +kernel
theorem dl_1119 : decode code 1119 = .ok (.aload_n 0, 1) := by decide +kernel
theorem dl_1120 : decode code 1120 = .ok (.iload 4, 2) := by decide +kernel
theorem dl_1122 : decode code 1122 = .ok (.iconst 1, 1) := by decide +kernel
theorem dl_1123 : decode code 1123 = .ok (.iadd, 1) := by decide +kernel
theorem dl_1124 : decode code 1124 = .ok (.iaload, 1) := by decide +kernel
theorem dl_1125 : decode code 1125 = .ok (.aload_n 0, 1) := by decide +kernel
theorem dl_1126 : decode code 1126 = .ok (.iload 4, 2) := by decide +kernel
theorem dl_1128 : decode code 1128 = .ok (.iconst 2, 1) := by decide +kernel
theorem dl_1129 : decode code 1129 = .ok (.iadd, 1) := by decide +kernel
theorem dl_1130 : decode code 1130 = .ok (.iaload, 1) := by decide +kernel
theorem dl_1131 : decode code 1131 = .ok (.aload_n 0, 1) := by decide +kernel
theorem dl_1132 : decode code 1132 = .ok (.iload 4, 2) := by decide +kernel
theorem dl_1134 : decode code 1134 = .ok (.iconst 3, 1) := by decide +kernel
theorem dl_1135 : decode code 1135 = .ok (.iadd, 1) := by decide +kernel
theorem dl_1136 : decode code 1136 = .ok (.iaload, 1) := by decide +kernel
theorem dl_1137 : decode code 1137 = .ok (.invokevirtual 135, 3) := by decide +kernel
theorem dl_1140 : decode code 1140 = .ok (.aload_n 2, 1) := by decide +kernel
theorem dl_1141 : decode code 1141 = .ok (.aload_n 0, 1) := by decide +kernel
theorem dl_1142 : decode code 1142 = .ok (.iload 4, 2) := by decide +kernel
theorem dl_1144 : decode code 1144 = .ok (.iconst 1, 1) := by decide +kernel
theorem dl_1145 : decode code 1145 = .ok (.iadd, 1) := by decide +kernel
theorem dl_1146 : decode code 1146 = .ok (.iaload, 1) := by decide +kernel
theorem dl_1147 : decode code 1147 = .ok (.aload_n 0, 1) := by decide +kernel
theorem dl_1148 : decode code 1148 = .ok (.iload 4, 2) := by decide +kernel
theorem dl_1150 : decode code 1150 = .ok (.iconst 2, 1) := by decide +kernel
theorem dl_1151 : decode code 1151 = .ok (.iadd, 1) := by decide +kernel
theorem dl_1152 : decode code 1152 = .ok (.iaload, 1) := by decide +kernel
theorem dl_1153 : decode code 1153 = .ok (.aload_n 0, 1) := by decide +kernel
theorem dl_1154 : decode code 1154 = .ok (.iload 4, 2) := by decide +kernel
theorem dl_1156 : decode code 1156 = .ok (.iconst 3, 1) := by decide +kernel
theorem dl_1157 : decode code 1157 = .ok (.iadd, 1) := by decide +kernel
theorem dl_1158 : decode code 1158 = .ok (.iaload, 1) := by decide +kernel
theorem dl_1159 : decode code 1159 = .ok (.invokevirtual 138, 3) := by decide +kernel
theorem dl_1162 : decode code 1162 = .ok (.if_icmp .eq 83, 3) := by decide +kernel
theorem dl_1165 : decode code 1165 = .ok (.iconst 0, 1) := by decide +kernel
theorem dl_1166 : decode code 1166 = .ok (.ireturn, 1) := by decide +kernel
theorem dl_1167 : decode code 1167 = .ok (.aload_n 1, 1) := by decide +kernel
theorem dl_1168 : decode code 1168 = .ok (.aload_n 0, 1) := by decide +kernel
theorem dl_1169 : decode code 1169 = .ok (.iload 4, 2) := by decide +kernel
theorem dl_1171 : decode code 1171 = .ok (.iconst 1, 1) := by decide +kernel
theorem dl_1172 : decode code 1172 = .ok (.iadd, 1) := by decide +kernel
theorem dl_1173 : decode code 1173 = .ok (.iaload, 1) := by decide +kernel
theorem dl_1174 : decode code 1174 = .ok (.aload_n 0, 1) := by decide +kernel
theorem dl_1175 : decode code 1175 = .ok (.iload 4, 2) := by decide +kernel
theorem dl_1177 : decode code 1177 = .ok (.iconst 2, 1) := by decide +kernel
theorem dl_1178 : decode code 1178 = .ok (.iadd, 1) := by decide +kernel
theorem dl_1179 : decode code 1179 = .ok (.iaload, 1) := by decide +kernel
theorem dl_1180 : decode code 1180 = .ok (.ifCond .eq 7, 3) := by decide +kernel
theorem dl_1183 : decode code 1183 = .ok (.iconst 1, 1) := by decide +kernel
theorem dl_1184 : decode code 1184 = .ok (.goto 4, 3) := by decide +kernel
theorem dl_1187 : decode code 1187 = .ok (.iconst 0, 1) := by decide +kernel
theorem dl_1188 : decode code 1188 = .ok (.invokevirtual 139, 3) := by decide +kernel
theorem dl_1191 : decode code 1191 = .ok (.aload_n 2, 1) := by decide +kernel
theorem dl_1192 : decode code 1192 = .ok (.aload_n 0, 1) := by decide +kernel
theorem dl_1193 : decode code 1193 = .ok (.iload 4, 2) := by decide +kernel
theorem dl_1195 : decode code 1195 = .ok (.iconst 1, 1) := by decide +kernel
theorem dl_1196 : decode code 1196 = .ok (.iadd, 1) := by decide +kernel
theorem dl_1197 : decode code 1197 = .ok (.iaload, 1) := by decide +kernel
theorem dl_1198 : decode code 1198 = .ok (.aload_n 0, 1) := by decide +kernel
theorem dl_1199 : decode code 1199 = .ok (.iload 4, 2) := by decide +kernel
theorem dl_1201 : decode code 1201 = .ok (.iconst 2, 1) := by decide +kernel
theorem dl_1202 : decode code 1202 = .ok (.iadd, 1) := by decide +kernel
theorem dl_1203 : decode code 1203 = .ok (.iaload, 1) := by decide +kernel
theorem dl_1204 : decode code 1204 = .ok (.ifCond .eq 7, 3) := by decide +kernel
theorem dl_1207 : decode code 1207 = .ok (.iconst 1, 1) := by decide +kernel
theorem dl_1208 : decode code 1208 = .ok (.goto 4, 3) := by decide +kernel
theorem dl_1211 : decode code 1211 = .ok (.iconst 0, 1) := by decide +kernel
theorem dl_1212 : decode code 1212 = .ok (.invokevirtual 143, 3) := by decide +kernel
theorem dl_1215 : decode code 1215 = .ok (.if_icmp .eq 30, 3) := by decide +kernel
theorem dl_1218 : decode code 1218 = .ok (.iconst 0, 1) := by decide +kernel
theorem dl_1219 : decode code 1219 = .ok (.ireturn, 1) := by decide +kernel
theorem dl_1220 : decode code 1220 = .ok (.aload_n 1, 1) := by decide +kernel
theorem dl_1221 : decode code 1221 = .ok (.aload_n 0, 1) := by decide +kernel
theorem dl_1222 : decode code 1222 = .ok (.iload 4, 2) := by decide +kernel
theorem dl_1224 : decode code 1224 = .ok (.iconst 1, 1) := by decide +kernel
theorem dl_1225 : decode code 1225 = .ok (.iadd, 1) := by decide +kernel
theorem dl_1226 : decode code 1226 = .ok (.iaload, 1) := by decide +kernel
theorem dl_1227 : decode code 1227 = .ok (.invokevirtual 144, 3) := by decide +kernel
theorem dl_1230 : decode code 1230 = .ok (.aload_n 2, 1) := by decide +kernel
theorem dl_1231 : decode code 1231 = .ok (.aload_n 0, 1) := by decide +kernel
theorem dl_1232 : decode code 1232 = .ok (.iload 4, 2) := by decide +kernel
theorem dl_1234 : decode code 1234 = .ok (.iconst 1, 1) := by decide +kernel
theorem dl_1235 : decode code 1235 = .ok (.iadd, 1) := by decide +kernel
theorem dl_1236 : decode code 1236 = .ok (.iaload, 1) := by decide +kernel
theorem dl_1237 : decode code 1237 = .ok (.invokevirtual 147, 3) := by decide +kernel
theorem dl_1240 : decode code 1240 = .ok (.if_icmp .eq 5, 3) := by decide +kernel
theorem dl_1243 : decode code 1243 = .ok (.iconst 0, 1) := by decide +kernel
theorem dl_1244 : decode code 1244 = .ok (.ireturn, 1) := by decide +kernel
theorem dl_1245 : decode code 1245 = .ok (.iinc 4 7, 3) := by decide +kernel
theorem dl_1248 : decode code 1248 = .ok (.goto (-1225), 3) := by decide +kernel
theorem dl_1251 : decode code 1251 = .ok (.iconst 1, 1) := by decide +kernel
theorem dl_1252 : decode code 1252 = .ok (.ireturn, 1) := by decide +kernel
theorem c2_law : Cond.constantLong "HillClockLaw" 19 (4294967295 : Int64) ∈ TBL := tb_i9 74 (by decide +kernel) (by decide +kernel)
theorem wml_21 : Cond.methodLink "HillClockLaw" 21 yn_Clock_feed ∈ TBL := tb_i2 236 (by decide +kernel) (by decide +kernel)
theorem wmi_Clock_feed : MI yn_Clock_feed cd_Clock_feed 7 (some .int) 3 := ⟨tb_i2 239 (by decide +kernel) (by decide +kernel), tb_i1 1 (by decide +kernel) (by decide +kernel), by decide +kernel, by decide +kernel, by decide +kernel, by decide⟩
theorem wmv_Clock_feed : MV yn_Clock_feed 10 := ⟨tb_i2 237 (by decide +kernel) (by decide +kernel), tb_i2 238 (by decide +kernel) (by decide +kernel), by decide, rfl⟩
theorem wml_25 : Cond.methodLink "HillClockLaw" 25 yn_Model_feed ∈ TBL := tb_i7 93 (by decide +kernel) (by decide +kernel)
theorem wmi_Model_feed : MI yn_Model_feed cd_Model_feed 11 (some .int) 3 := ⟨tb_i7 96 (by decide +kernel) (by decide +kernel), tb_i1 13 (by decide +kernel) (by decide +kernel), by decide +kernel, by decide +kernel, by decide +kernel, by decide⟩
theorem wmv_Model_feed : MV yn_Model_feed 11 := ⟨tb_i7 94 (by decide +kernel) (by decide +kernel), tb_i7 95 (by decide +kernel) (by decide +kernel), by decide, rfl⟩
theorem wml_26 : Cond.methodLink "HillClockLaw" 26 yn_Clock_hills ∈ TBL := tb_i3 8 (by decide +kernel) (by decide +kernel)
theorem wmi_Clock_hills : MI yn_Clock_hills cd_Clock_hills 4 (some .int) 0 := ⟨tb_i3 11 (by decide +kernel) (by decide +kernel), tb_i1 1 (by decide +kernel) (by decide +kernel), by decide +kernel, by decide +kernel, by decide +kernel, by decide⟩
theorem wmv_Clock_hills : MV yn_Clock_hills 10 := ⟨tb_i3 9 (by decide +kernel) (by decide +kernel), tb_i3 10 (by decide +kernel) (by decide +kernel), by decide, rfl⟩
theorem wml_30 : Cond.methodLink "HillClockLaw" 30 yn_Model_hills ∈ TBL := tb_i7 98 (by decide +kernel) (by decide +kernel)
theorem wmi_Model_hills : MI yn_Model_hills cd_Model_hills 2 (some .int) 0 := ⟨tb_i7 101 (by decide +kernel) (by decide +kernel), tb_i1 13 (by decide +kernel) (by decide +kernel), by decide +kernel, by decide +kernel, by decide +kernel, by decide⟩
theorem wmv_Model_hills : MV yn_Model_hills 11 := ⟨tb_i7 99 (by decide +kernel) (by decide +kernel), tb_i7 100 (by decide +kernel) (by decide +kernel), by decide, rfl⟩
theorem wml_31 : Cond.methodLink "HillClockLaw" 31 yn_Clock_days ∈ TBL := tb_i4 102 (by decide +kernel) (by decide +kernel)
theorem wmi_Clock_days : MI yn_Clock_days cd_Clock_days 2 (some .int) 0 := ⟨tb_i4 105 (by decide +kernel) (by decide +kernel), tb_i1 1 (by decide +kernel) (by decide +kernel), by decide +kernel, by decide +kernel, by decide +kernel, by decide⟩
theorem wmv_Clock_days : MV yn_Clock_days 10 := ⟨tb_i4 103 (by decide +kernel) (by decide +kernel), tb_i4 104 (by decide +kernel) (by decide +kernel), by decide, rfl⟩
theorem wml_34 : Cond.methodLink "HillClockLaw" 34 yn_Model_days ∈ TBL := tb_i8 39 (by decide +kernel) (by decide +kernel)
theorem wmi_Model_days : MI yn_Model_days cd_Model_days 1 (some .int) 0 := ⟨tb_i8 42 (by decide +kernel) (by decide +kernel), tb_i1 13 (by decide +kernel) (by decide +kernel), by decide +kernel, by decide +kernel, by decide +kernel, by decide⟩
theorem wmv_Model_days : MV yn_Model_days 11 := ⟨tb_i8 40 (by decide +kernel) (by decide +kernel), tb_i8 41 (by decide +kernel) (by decide +kernel), by decide, rfl⟩
theorem wml_35 : Cond.methodLink "HillClockLaw" 35 yn_Clock_way ∈ TBL := tb_i4 140 (by decide +kernel) (by decide +kernel)
theorem wmi_Clock_way : MI yn_Clock_way cd_Clock_way 3 (some .int) 2 := ⟨tb_i4 143 (by decide +kernel) (by decide +kernel), tb_i1 1 (by decide +kernel) (by decide +kernel), by decide +kernel, by decide +kernel, by decide +kernel, by decide⟩
theorem wmv_Clock_way : MV yn_Clock_way 10 := ⟨tb_i4 141 (by decide +kernel) (by decide +kernel), tb_i4 142 (by decide +kernel) (by decide +kernel), by decide, rfl⟩
theorem wml_39 : Cond.methodLink "HillClockLaw" 39 yn_Model_way ∈ TBL := tb_i8 51 (by decide +kernel) (by decide +kernel)
theorem wmi_Model_way : MI yn_Model_way cd_Model_way 3 (some .int) 2 := ⟨tb_i8 54 (by decide +kernel) (by decide +kernel), tb_i1 13 (by decide +kernel) (by decide +kernel), by decide +kernel, by decide +kernel, by decide +kernel, by decide⟩
theorem wmv_Model_way : MV yn_Model_way 11 := ⟨tb_i8 52 (by decide +kernel) (by decide +kernel), tb_i8 53 (by decide +kernel) (by decide +kernel), by decide, rfl⟩
theorem wml_40 : Cond.methodLink "HillClockLaw" 40 yn_Clock_walker ∈ TBL := tb_i4 148 (by decide +kernel) (by decide +kernel)
theorem wmi_Clock_walker : MI yn_Clock_walker cd_Clock_walker 4 (some .int) 2 := ⟨tb_i4 151 (by decide +kernel) (by decide +kernel), tb_i1 1 (by decide +kernel) (by decide +kernel), by decide +kernel, by decide +kernel, by decide +kernel, by decide⟩
theorem wmv_Clock_walker : MV yn_Clock_walker 10 := ⟨tb_i4 149 (by decide +kernel) (by decide +kernel), tb_i4 150 (by decide +kernel) (by decide +kernel), by decide, rfl⟩
theorem wml_43 : Cond.methodLink "HillClockLaw" 43 yn_Model_walker ∈ TBL := tb_i8 59 (by decide +kernel) (by decide +kernel)
theorem wmi_Model_walker : MI yn_Model_walker cd_Model_walker 3 (some .int) 2 := ⟨tb_i8 62 (by decide +kernel) (by decide +kernel), tb_i1 13 (by decide +kernel) (by decide +kernel), by decide +kernel, by decide +kernel, by decide +kernel, by decide⟩
theorem wmv_Model_walker : MV yn_Model_walker 11 := ⟨tb_i8 60 (by decide +kernel) (by decide +kernel), tb_i8 61 (by decide +kernel) (by decide +kernel), by decide, rfl⟩
theorem wml_44 : Cond.methodLink "HillClockLaw" 44 yn_Clock_where ∈ TBL := tb_i4 160 (by decide +kernel) (by decide +kernel)
theorem wmi_Clock_where : MI yn_Clock_where cd_Clock_where 3 (some .int) 2 := ⟨tb_i4 163 (by decide +kernel) (by decide +kernel), tb_i1 1 (by decide +kernel) (by decide +kernel), by decide +kernel, by decide +kernel, by decide +kernel, by decide⟩
theorem wmv_Clock_where : MV yn_Clock_where 10 := ⟨tb_i4 161 (by decide +kernel) (by decide +kernel), tb_i4 162 (by decide +kernel) (by decide +kernel), by decide, rfl⟩
theorem wml_47 : Cond.methodLink "HillClockLaw" 47 yn_Model_where ∈ TBL := tb_i8 67 (by decide +kernel) (by decide +kernel)
theorem wmi_Model_where : MI yn_Model_where cd_Model_where 3 (some .int) 2 := ⟨tb_i8 70 (by decide +kernel) (by decide +kernel), tb_i1 13 (by decide +kernel) (by decide +kernel), by decide +kernel, by decide +kernel, by decide +kernel, by decide⟩
theorem wmv_Model_where : MV yn_Model_where 11 := ⟨tb_i8 68 (by decide +kernel) (by decide +kernel), tb_i8 69 (by decide +kernel) (by decide +kernel), by decide, rfl⟩
theorem wml_48 : Cond.methodLink "HillClockLaw" 48 yn_Clock_hour ∈ TBL := tb_i4 219 (by decide +kernel) (by decide +kernel)
theorem wmi_Clock_hour : MI yn_Clock_hour cd_Clock_hour 3 (some .int) 2 := ⟨tb_i4 222 (by decide +kernel) (by decide +kernel), tb_i1 1 (by decide +kernel) (by decide +kernel), by decide +kernel, by decide +kernel, by decide +kernel, by decide⟩
theorem wmv_Clock_hour : MV yn_Clock_hour 10 := ⟨tb_i4 220 (by decide +kernel) (by decide +kernel), tb_i4 221 (by decide +kernel) (by decide +kernel), by decide, rfl⟩
theorem wml_51 : Cond.methodLink "HillClockLaw" 51 yn_Model_hour ∈ TBL := tb_i8 91 (by decide +kernel) (by decide +kernel)
theorem wmi_Model_hour : MI yn_Model_hour cd_Model_hour 3 (some .int) 2 := ⟨tb_i8 94 (by decide +kernel) (by decide +kernel), tb_i1 13 (by decide +kernel) (by decide +kernel), by decide +kernel, by decide +kernel, by decide +kernel, by decide⟩
theorem wmv_Model_hour : MV yn_Model_hour 11 := ⟨tb_i8 92 (by decide +kernel) (by decide +kernel), tb_i8 93 (by decide +kernel) (by decide +kernel), by decide, rfl⟩
theorem wml_52 : Cond.methodLink "HillClockLaw" 52 yn_Clock_meet ∈ TBL := tb_i5 29 (by decide +kernel) (by decide +kernel)
theorem wmi_Clock_meet : MI yn_Clock_meet cd_Clock_meet 5 (some .int) 3 := ⟨tb_i5 32 (by decide +kernel) (by decide +kernel), tb_i1 1 (by decide +kernel) (by decide +kernel), by decide +kernel, by decide +kernel, by decide +kernel, by decide⟩
theorem wmv_Clock_meet : MV yn_Clock_meet 10 := ⟨tb_i5 30 (by decide +kernel) (by decide +kernel), tb_i5 31 (by decide +kernel) (by decide +kernel), by decide, rfl⟩
theorem wml_56 : Cond.methodLink "HillClockLaw" 56 yn_Model_meet ∈ TBL := tb_i8 137 (by decide +kernel) (by decide +kernel)
theorem wmi_Model_meet : MI yn_Model_meet cd_Model_meet 5 (some .int) 3 := ⟨tb_i8 140 (by decide +kernel) (by decide +kernel), tb_i1 13 (by decide +kernel) (by decide +kernel), by decide +kernel, by decide +kernel, by decide +kernel, by decide⟩
theorem wmv_Model_meet : MV yn_Model_meet 11 := ⟨tb_i8 138 (by decide +kernel) (by decide +kernel), tb_i8 139 (by decide +kernel) (by decide +kernel), by decide, rfl⟩
theorem wml_57 : Cond.methodLink "HillClockLaw" 57 yn_Clock_late ∈ TBL := tb_i5 45 (by decide +kernel) (by decide +kernel)
theorem wmi_Clock_late : MI yn_Clock_late cd_Clock_late 3 (some .boolean) 2 := ⟨tb_i5 48 (by decide +kernel) (by decide +kernel), tb_i1 1 (by decide +kernel) (by decide +kernel), by decide +kernel, by decide +kernel, by decide +kernel, by decide⟩
theorem wmv_Clock_late : MV yn_Clock_late 10 := ⟨tb_i5 46 (by decide +kernel) (by decide +kernel), tb_i5 47 (by decide +kernel) (by decide +kernel), by decide, rfl⟩
theorem wml_61 : Cond.methodLink "HillClockLaw" 61 yn_Model_late ∈ TBL := tb_i8 145 (by decide +kernel) (by decide +kernel)
theorem wmi_Model_late : MI yn_Model_late cd_Model_late 3 (some .boolean) 2 := ⟨tb_i8 148 (by decide +kernel) (by decide +kernel), tb_i1 13 (by decide +kernel) (by decide +kernel), by decide +kernel, by decide +kernel, by decide +kernel, by decide⟩
theorem wmv_Model_late : MV yn_Model_late 11 := ⟨tb_i8 146 (by decide +kernel) (by decide +kernel), tb_i8 147 (by decide +kernel) (by decide +kernel), by decide, rfl⟩
theorem wml_62 : Cond.methodLink "HillClockLaw" 62 yn_Clock_dies ∈ TBL := tb_i5 57 (by decide +kernel) (by decide +kernel)
theorem wmi_Clock_dies : MI yn_Clock_dies cd_Clock_dies 2 (some .boolean) 1 := ⟨tb_i5 60 (by decide +kernel) (by decide +kernel), tb_i1 1 (by decide +kernel) (by decide +kernel), by decide +kernel, by decide +kernel, by decide +kernel, by decide⟩
theorem wmv_Clock_dies : MV yn_Clock_dies 10 := ⟨tb_i5 58 (by decide +kernel) (by decide +kernel), tb_i5 59 (by decide +kernel) (by decide +kernel), by decide, rfl⟩
theorem wml_66 : Cond.methodLink "HillClockLaw" 66 yn_Model_dies ∈ TBL := tb_i8 160 (by decide +kernel) (by decide +kernel)
theorem wmi_Model_dies : MI yn_Model_dies cd_Model_dies 2 (some .boolean) 1 := ⟨tb_i8 163 (by decide +kernel) (by decide +kernel), tb_i1 13 (by decide +kernel) (by decide +kernel), by decide +kernel, by decide +kernel, by decide +kernel, by decide⟩
theorem wmv_Model_dies : MV yn_Model_dies 11 := ⟨tb_i8 161 (by decide +kernel) (by decide +kernel), tb_i8 162 (by decide +kernel) (by decide +kernel), by decide, rfl⟩
theorem wml_67 : Cond.methodLink "HillClockLaw" 67 yn_Clock_deputy ∈ TBL := tb_i5 65 (by decide +kernel) (by decide +kernel)
theorem wmi_Clock_deputy : MI yn_Clock_deputy cd_Clock_deputy 3 (some .boolean) 2 := ⟨tb_i5 68 (by decide +kernel) (by decide +kernel), tb_i1 1 (by decide +kernel) (by decide +kernel), by decide +kernel, by decide +kernel, by decide +kernel, by decide⟩
theorem wmv_Clock_deputy : MV yn_Clock_deputy 10 := ⟨tb_i5 66 (by decide +kernel) (by decide +kernel), tb_i5 67 (by decide +kernel) (by decide +kernel), by decide, rfl⟩
theorem wml_70 : Cond.methodLink "HillClockLaw" 70 yn_Model_deputy ∈ TBL := tb_i8 168 (by decide +kernel) (by decide +kernel)
theorem wmi_Model_deputy : MI yn_Model_deputy cd_Model_deputy 3 (some .boolean) 2 := ⟨tb_i8 171 (by decide +kernel) (by decide +kernel), tb_i1 13 (by decide +kernel) (by decide +kernel), by decide +kernel, by decide +kernel, by decide +kernel, by decide⟩
theorem wmv_Model_deputy : MV yn_Model_deputy 11 := ⟨tb_i8 169 (by decide +kernel) (by decide +kernel), tb_i8 170 (by decide +kernel) (by decide +kernel), by decide, rfl⟩
theorem wml_71 : Cond.methodLink "HillClockLaw" 71 yn_Clock_snow ∈ TBL := tb_i5 75 (by decide +kernel) (by decide +kernel)
theorem wmi_Clock_snow : MI yn_Clock_snow cd_Clock_snow 1 (some .boolean) 0 := ⟨tb_i5 78 (by decide +kernel) (by decide +kernel), tb_i1 1 (by decide +kernel) (by decide +kernel), by decide +kernel, by decide +kernel, by decide +kernel, by decide⟩
theorem wmv_Clock_snow : MV yn_Clock_snow 10 := ⟨tb_i5 76 (by decide +kernel) (by decide +kernel), tb_i5 77 (by decide +kernel) (by decide +kernel), by decide, rfl⟩
theorem wml_75 : Cond.methodLink "HillClockLaw" 75 yn_Model_snow ∈ TBL := tb_i8 176 (by decide +kernel) (by decide +kernel)
theorem wmi_Model_snow : MI yn_Model_snow cd_Model_snow 1 (some .boolean) 0 := ⟨tb_i8 179 (by decide +kernel) (by decide +kernel), tb_i1 13 (by decide +kernel) (by decide +kernel), by decide +kernel, by decide +kernel, by decide +kernel, by decide⟩
theorem wmv_Model_snow : MV yn_Model_snow 11 := ⟨tb_i8 177 (by decide +kernel) (by decide +kernel), tb_i8 178 (by decide +kernel) (by decide +kernel), by decide, rfl⟩
theorem wml_76 : Cond.methodLink "HillClockLaw" 76 yn_Clock_day ∈ TBL := tb_i5 79 (by decide +kernel) (by decide +kernel)
theorem wmi_Clock_day : MI yn_Clock_day cd_Clock_day 2 (some .int) 0 := ⟨tb_i5 82 (by decide +kernel) (by decide +kernel), tb_i1 1 (by decide +kernel) (by decide +kernel), by decide +kernel, by decide +kernel, by decide +kernel, by decide⟩
theorem wmv_Clock_day : MV yn_Clock_day 10 := ⟨tb_i5 80 (by decide +kernel) (by decide +kernel), tb_i5 81 (by decide +kernel) (by decide +kernel), by decide, rfl⟩
theorem wml_79 : Cond.methodLink "HillClockLaw" 79 yn_Model_day ∈ TBL := tb_i8 180 (by decide +kernel) (by decide +kernel)
theorem wmi_Model_day : MI yn_Model_day cd_Model_day 1 (some .int) 0 := ⟨tb_i8 183 (by decide +kernel) (by decide +kernel), tb_i1 13 (by decide +kernel) (by decide +kernel), by decide +kernel, by decide +kernel, by decide +kernel, by decide⟩
theorem wmv_Model_day : MV yn_Model_day 11 := ⟨tb_i8 181 (by decide +kernel) (by decide +kernel), tb_i8 182 (by decide +kernel) (by decide +kernel), by decide, rfl⟩
theorem wml_80 : Cond.methodLink "HillClockLaw" 80 yn_Clock_undo ∈ TBL := tb_i5 92 (by decide +kernel) (by decide +kernel)
theorem wmi_Clock_undo : MI yn_Clock_undo cd_Clock_undo 1 (some .boolean) 0 := ⟨tb_i5 95 (by decide +kernel) (by decide +kernel), tb_i1 1 (by decide +kernel) (by decide +kernel), by decide +kernel, by decide +kernel, by decide +kernel, by decide⟩
theorem wmv_Clock_undo : MV yn_Clock_undo 10 := ⟨tb_i5 93 (by decide +kernel) (by decide +kernel), tb_i5 94 (by decide +kernel) (by decide +kernel), by decide, rfl⟩
theorem wml_83 : Cond.methodLink "HillClockLaw" 83 yn_Model_undo ∈ TBL := tb_i8 188 (by decide +kernel) (by decide +kernel)
theorem wmi_Model_undo : MI yn_Model_undo cd_Model_undo 1 (some .boolean) 0 := ⟨tb_i8 191 (by decide +kernel) (by decide +kernel), tb_i1 13 (by decide +kernel) (by decide +kernel), by decide +kernel, by decide +kernel, by decide +kernel, by decide⟩
theorem wmv_Model_undo : MV yn_Model_undo 11 := ⟨tb_i8 189 (by decide +kernel) (by decide +kernel), tb_i8 190 (by decide +kernel) (by decide +kernel), by decide, rfl⟩
theorem wml_84 : Cond.methodLink "HillClockLaw" 84 yn_Clock_judged ∈ TBL := tb_i5 96 (by decide +kernel) (by decide +kernel)
theorem wmi_Clock_judged : MI yn_Clock_judged cd_Clock_judged 6 (some .int) 1 := ⟨tb_i5 99 (by decide +kernel) (by decide +kernel), tb_i1 1 (by decide +kernel) (by decide +kernel), by decide +kernel, by decide +kernel, by decide +kernel, by decide⟩
theorem wmv_Clock_judged : MV yn_Clock_judged 10 := ⟨tb_i5 97 (by decide +kernel) (by decide +kernel), tb_i5 98 (by decide +kernel) (by decide +kernel), by decide, rfl⟩
theorem wml_88 : Cond.methodLink "HillClockLaw" 88 yn_Model_judged ∈ TBL := tb_i8 192 (by decide +kernel) (by decide +kernel)
theorem wmi_Model_judged : MI yn_Model_judged cd_Model_judged 5 (some .int) 1 := ⟨tb_i8 195 (by decide +kernel) (by decide +kernel), tb_i1 13 (by decide +kernel) (by decide +kernel), by decide +kernel, by decide +kernel, by decide +kernel, by decide⟩
theorem wmv_Model_judged : MV yn_Model_judged 11 := ⟨tb_i8 193 (by decide +kernel) (by decide +kernel), tb_i8 194 (by decide +kernel) (by decide +kernel), by decide, rfl⟩
theorem wml_89 : Cond.methodLink "HillClockLaw" 89 yn_Clock_see ∈ TBL := tb_i5 120 (by decide +kernel) (by decide +kernel)
theorem wmi_Clock_see : MI yn_Clock_see cd_Clock_see 4 (some .boolean) 3 := ⟨tb_i5 123 (by decide +kernel) (by decide +kernel), tb_i1 1 (by decide +kernel) (by decide +kernel), by decide +kernel, by decide +kernel, by decide +kernel, by decide⟩
theorem wmv_Clock_see : MV yn_Clock_see 10 := ⟨tb_i5 121 (by decide +kernel) (by decide +kernel), tb_i5 122 (by decide +kernel) (by decide +kernel), by decide, rfl⟩
theorem wml_93 : Cond.methodLink "HillClockLaw" 93 yn_Model_see ∈ TBL := tb_i8 200 (by decide +kernel) (by decide +kernel)
theorem wmi_Model_see : MI yn_Model_see cd_Model_see 4 (some .boolean) 3 := ⟨tb_i8 203 (by decide +kernel) (by decide +kernel), tb_i1 13 (by decide +kernel) (by decide +kernel), by decide +kernel, by decide +kernel, by decide +kernel, by decide⟩
theorem wmv_Model_see : MV yn_Model_see 11 := ⟨tb_i8 201 (by decide +kernel) (by decide +kernel), tb_i8 202 (by decide +kernel) (by decide +kernel), by decide, rfl⟩
theorem wml_94 : Cond.methodLink "HillClockLaw" 94 yn_Clock_times ∈ TBL := tb_i5 128 (by decide +kernel) (by decide +kernel)
theorem wmi_Clock_times : MI yn_Clock_times cd_Clock_times 6 (some .int) 1 := ⟨tb_i5 131 (by decide +kernel) (by decide +kernel), tb_i1 1 (by decide +kernel) (by decide +kernel), by decide +kernel, by decide +kernel, by decide +kernel, by decide⟩
theorem wmv_Clock_times : MV yn_Clock_times 10 := ⟨tb_i5 129 (by decide +kernel) (by decide +kernel), tb_i5 130 (by decide +kernel) (by decide +kernel), by decide, rfl⟩
theorem wml_97 : Cond.methodLink "HillClockLaw" 97 yn_Model_times ∈ TBL := tb_i8 204 (by decide +kernel) (by decide +kernel)
theorem wmi_Model_times : MI yn_Model_times cd_Model_times 6 (some .int) 1 := ⟨tb_i8 207 (by decide +kernel) (by decide +kernel), tb_i1 13 (by decide +kernel) (by decide +kernel), by decide +kernel, by decide +kernel, by decide +kernel, by decide⟩
theorem wmv_Model_times : MV yn_Model_times 11 := ⟨tb_i8 205 (by decide +kernel) (by decide +kernel), tb_i8 206 (by decide +kernel) (by decide +kernel), by decide, rfl⟩
theorem wml_98 : Cond.methodLink "HillClockLaw" 98 yn_Clock_look ∈ TBL := tb_i5 149 (by decide +kernel) (by decide +kernel)
theorem wmi_Clock_look : MI yn_Clock_look cd_Clock_look 5 (some .int) 0 := ⟨tb_i5 152 (by decide +kernel) (by decide +kernel), tb_i1 1 (by decide +kernel) (by decide +kernel), by decide +kernel, by decide +kernel, by decide +kernel, by decide⟩
theorem wmv_Clock_look : MV yn_Clock_look 10 := ⟨tb_i5 150 (by decide +kernel) (by decide +kernel), tb_i5 151 (by decide +kernel) (by decide +kernel), by decide, rfl⟩
theorem wml_101 : Cond.methodLink "HillClockLaw" 101 yn_Model_look ∈ TBL := tb_i8 212 (by decide +kernel) (by decide +kernel)
theorem wmi_Model_look : MI yn_Model_look cd_Model_look 5 (some .int) 0 := ⟨tb_i8 215 (by decide +kernel) (by decide +kernel), tb_i1 13 (by decide +kernel) (by decide +kernel), by decide +kernel, by decide +kernel, by decide +kernel, by decide⟩
theorem wmv_Model_look : MV yn_Model_look 11 := ⟨tb_i8 213 (by decide +kernel) (by decide +kernel), tb_i8 214 (by decide +kernel) (by decide +kernel), by decide, rfl⟩
theorem wml_102 : Cond.methodLink "HillClockLaw" 102 yn_Clock_deputies ∈ TBL := tb_i5 160 (by decide +kernel) (by decide +kernel)
theorem wmi_Clock_deputies : MI yn_Clock_deputies cd_Clock_deputies 2 (some .int) 1 := ⟨tb_i5 163 (by decide +kernel) (by decide +kernel), tb_i1 1 (by decide +kernel) (by decide +kernel), by decide +kernel, by decide +kernel, by decide +kernel, by decide⟩
theorem wmv_Clock_deputies : MV yn_Clock_deputies 10 := ⟨tb_i5 161 (by decide +kernel) (by decide +kernel), tb_i5 162 (by decide +kernel) (by decide +kernel), by decide, rfl⟩
theorem wml_105 : Cond.methodLink "HillClockLaw" 105 yn_Model_deputies ∈ TBL := tb_i8 226 (by decide +kernel) (by decide +kernel)
theorem wmi_Model_deputies : MI yn_Model_deputies cd_Model_deputies 2 (some .int) 1 := ⟨tb_i8 229 (by decide +kernel) (by decide +kernel), tb_i1 13 (by decide +kernel) (by decide +kernel), by decide +kernel, by decide +kernel, by decide +kernel, by decide⟩
theorem wmv_Model_deputies : MV yn_Model_deputies 11 := ⟨tb_i8 227 (by decide +kernel) (by decide +kernel), tb_i8 228 (by decide +kernel) (by decide +kernel), by decide, rfl⟩
theorem wml_106 : Cond.methodLink "HillClockLaw" 106 yn_Clock_sure ∈ TBL := tb_i5 170 (by decide +kernel) (by decide +kernel)
theorem wmi_Clock_sure : MI yn_Clock_sure cd_Clock_sure 9 (some .int) 3 := ⟨tb_i5 173 (by decide +kernel) (by decide +kernel), tb_i1 1 (by decide +kernel) (by decide +kernel), by decide +kernel, by decide +kernel, by decide +kernel, by decide⟩
theorem wmv_Clock_sure : MV yn_Clock_sure 10 := ⟨tb_i5 171 (by decide +kernel) (by decide +kernel), tb_i5 172 (by decide +kernel) (by decide +kernel), by decide, rfl⟩
theorem wml_109 : Cond.methodLink "HillClockLaw" 109 yn_Model_sure ∈ TBL := tb_i8 234 (by decide +kernel) (by decide +kernel)
theorem wmi_Model_sure : MI yn_Model_sure cd_Model_sure 10 (some .int) 3 := ⟨tb_i8 237 (by decide +kernel) (by decide +kernel), tb_i1 13 (by decide +kernel) (by decide +kernel), by decide +kernel, by decide +kernel, by decide +kernel, by decide⟩
theorem wmv_Model_sure : MV yn_Model_sure 11 := ⟨tb_i8 235 (by decide +kernel) (by decide +kernel), tb_i8 236 (by decide +kernel) (by decide +kernel), by decide, rfl⟩
theorem wml_110 : Cond.methodLink "HillClockLaw" 110 yn_Clock_soonest ∈ TBL := tb_i5 175 (by decide +kernel) (by decide +kernel)
theorem wmi_Clock_soonest : MI yn_Clock_soonest cd_Clock_soonest 4 (some .int) 3 := ⟨tb_i5 178 (by decide +kernel) (by decide +kernel), tb_i1 1 (by decide +kernel) (by decide +kernel), by decide +kernel, by decide +kernel, by decide +kernel, by decide⟩
theorem wmv_Clock_soonest : MV yn_Clock_soonest 10 := ⟨tb_i5 176 (by decide +kernel) (by decide +kernel), tb_i5 177 (by decide +kernel) (by decide +kernel), by decide, rfl⟩
theorem wml_113 : Cond.methodLink "HillClockLaw" 113 yn_Model_soonest ∈ TBL := tb_i9 2 (by decide +kernel) (by decide +kernel)
theorem wmi_Model_soonest : MI yn_Model_soonest cd_Model_soonest 11 (some .int) 3 := ⟨tb_i9 5 (by decide +kernel) (by decide +kernel), tb_i1 13 (by decide +kernel) (by decide +kernel), by decide +kernel, by decide +kernel, by decide +kernel, by decide⟩
theorem wmv_Model_soonest : MV yn_Model_soonest 11 := ⟨tb_i9 3 (by decide +kernel) (by decide +kernel), tb_i9 4 (by decide +kernel) (by decide +kernel), by decide, rfl⟩
theorem wml_114 : Cond.methodLink "HillClockLaw" 114 yn_Clock_lonely ∈ TBL := tb_i5 194 (by decide +kernel) (by decide +kernel)
theorem wmi_Clock_lonely : MI yn_Clock_lonely cd_Clock_lonely 6 (some .int) 1 := ⟨tb_i5 197 (by decide +kernel) (by decide +kernel), tb_i1 1 (by decide +kernel) (by decide +kernel), by decide +kernel, by decide +kernel, by decide +kernel, by decide⟩
theorem wmv_Clock_lonely : MV yn_Clock_lonely 10 := ⟨tb_i5 195 (by decide +kernel) (by decide +kernel), tb_i5 196 (by decide +kernel) (by decide +kernel), by decide, rfl⟩
theorem wml_117 : Cond.methodLink "HillClockLaw" 117 yn_Model_lonely ∈ TBL := tb_i9 9 (by decide +kernel) (by decide +kernel)
theorem wmi_Model_lonely : MI yn_Model_lonely cd_Model_lonely 6 (some .int) 1 := ⟨tb_i9 12 (by decide +kernel) (by decide +kernel), tb_i1 13 (by decide +kernel) (by decide +kernel), by decide +kernel, by decide +kernel, by decide +kernel, by decide⟩
theorem wmv_Model_lonely : MV yn_Model_lonely 11 := ⟨tb_i9 10 (by decide +kernel) (by decide +kernel), tb_i9 11 (by decide +kernel) (by decide +kernel), by decide, rfl⟩
theorem wml_118 : Cond.methodLink "HillClockLaw" 118 yn_Clock_tell ∈ TBL := tb_i5 208 (by decide +kernel) (by decide +kernel)
theorem wmi_Clock_tell : MI yn_Clock_tell cd_Clock_tell 3 (some .boolean) 2 := ⟨tb_i5 211 (by decide +kernel) (by decide +kernel), tb_i1 1 (by decide +kernel) (by decide +kernel), by decide +kernel, by decide +kernel, by decide +kernel, by decide⟩
theorem wmv_Clock_tell : MV yn_Clock_tell 10 := ⟨tb_i5 209 (by decide +kernel) (by decide +kernel), tb_i5 210 (by decide +kernel) (by decide +kernel), by decide, rfl⟩
theorem wml_121 : Cond.methodLink "HillClockLaw" 121 yn_Model_tell ∈ TBL := tb_i9 17 (by decide +kernel) (by decide +kernel)
theorem wmi_Model_tell : MI yn_Model_tell cd_Model_tell 3 (some .boolean) 2 := ⟨tb_i9 20 (by decide +kernel) (by decide +kernel), tb_i1 13 (by decide +kernel) (by decide +kernel), by decide +kernel, by decide +kernel, by decide +kernel, by decide⟩
theorem wmv_Model_tell : MV yn_Model_tell 11 := ⟨tb_i9 18 (by decide +kernel) (by decide +kernel), tb_i9 19 (by decide +kernel) (by decide +kernel), by decide, rfl⟩
theorem wml_122 : Cond.methodLink "HillClockLaw" 122 yn_Clock_sets ∈ TBL := tb_i5 212 (by decide +kernel) (by decide +kernel)
theorem wmi_Clock_sets : MI yn_Clock_sets cd_Clock_sets 8 (some .int) 2 := ⟨tb_i5 215 (by decide +kernel) (by decide +kernel), tb_i1 1 (by decide +kernel) (by decide +kernel), by decide +kernel, by decide +kernel, by decide +kernel, by decide⟩
theorem wmv_Clock_sets : MV yn_Clock_sets 10 := ⟨tb_i5 213 (by decide +kernel) (by decide +kernel), tb_i5 214 (by decide +kernel) (by decide +kernel), by decide, rfl⟩
theorem wml_125 : Cond.methodLink "HillClockLaw" 125 yn_Model_sets ∈ TBL := tb_i9 21 (by decide +kernel) (by decide +kernel)
theorem wmi_Model_sets : MI yn_Model_sets cd_Model_sets 9 (some .int) 2 := ⟨tb_i9 24 (by decide +kernel) (by decide +kernel), tb_i1 13 (by decide +kernel) (by decide +kernel), by decide +kernel, by decide +kernel, by decide +kernel, by decide⟩
theorem wmv_Model_sets : MV yn_Model_sets 11 := ⟨tb_i9 22 (by decide +kernel) (by decide +kernel), tb_i9 23 (by decide +kernel) (by decide +kernel), by decide, rfl⟩
theorem wml_131 : Cond.methodLink "HillClockLaw" 131 yn_Model_rests ∈ TBL := tb_i9 32 (by decide +kernel) (by decide +kernel)
theorem wmi_Model_rests : MI yn_Model_rests cd_Model_rests 7 (some .int) 4 := ⟨tb_i9 35 (by decide +kernel) (by decide +kernel), tb_i1 13 (by decide +kernel) (by decide +kernel), by decide +kernel, by decide +kernel, by decide +kernel, by decide⟩
theorem wmv_Model_rests : MV yn_Model_rests 11 := ⟨tb_i9 33 (by decide +kernel) (by decide +kernel), tb_i9 34 (by decide +kernel) (by decide +kernel), by decide, rfl⟩
theorem wml_132 : Cond.methodLink "HillClockLaw" 132 yn_Model_thrown ∈ TBL := tb_i7 89 (by decide +kernel) (by decide +kernel)
theorem wmi_Model_thrown : MI yn_Model_thrown cd_Model_thrown 1 (some .int) 0 := ⟨tb_i7 92 (by decide +kernel) (by decide +kernel), tb_i1 13 (by decide +kernel) (by decide +kernel), by decide +kernel, by decide +kernel, by decide +kernel, by decide⟩
theorem wmv_Model_thrown : MV yn_Model_thrown 11 := ⟨tb_i7 90 (by decide +kernel) (by decide +kernel), tb_i7 91 (by decide +kernel) (by decide +kernel), by decide, rfl⟩
theorem wml_135 : Cond.methodLink "HillClockLaw" 135 yn_Clock_years ∈ TBL := tb_i5 226 (by decide +kernel) (by decide +kernel)
theorem wmi_Clock_years : MI yn_Clock_years cd_Clock_years 7 (some .int) 3 := ⟨tb_i5 229 (by decide +kernel) (by decide +kernel), tb_i1 1 (by decide +kernel) (by decide +kernel), by decide +kernel, by decide +kernel, by decide +kernel, by decide⟩
theorem wmv_Clock_years : MV yn_Clock_years 10 := ⟨tb_i5 227 (by decide +kernel) (by decide +kernel), tb_i5 228 (by decide +kernel) (by decide +kernel), by decide, rfl⟩
theorem wml_138 : Cond.methodLink "HillClockLaw" 138 yn_Model_years ∈ TBL := tb_i9 42 (by decide +kernel) (by decide +kernel)
theorem wmi_Model_years : MI yn_Model_years cd_Model_years 9 (some .int) 3 := ⟨tb_i9 45 (by decide +kernel) (by decide +kernel), tb_i1 13 (by decide +kernel) (by decide +kernel), by decide +kernel, by decide +kernel, by decide +kernel, by decide⟩
theorem wmv_Model_years : MV yn_Model_years 11 := ⟨tb_i9 43 (by decide +kernel) (by decide +kernel), tb_i9 44 (by decide +kernel) (by decide +kernel), by decide, rfl⟩
theorem wml_139 : Cond.methodLink "HillClockLaw" 139 yn_Clock_mark ∈ TBL := tb_i6 7 (by decide +kernel) (by decide +kernel)
theorem wmi_Clock_mark : MI yn_Clock_mark cd_Clock_mark 3 (some .boolean) 2 := ⟨tb_i6 10 (by decide +kernel) (by decide +kernel), tb_i1 1 (by decide +kernel) (by decide +kernel), by decide +kernel, by decide +kernel, by decide +kernel, by decide⟩
theorem wmv_Clock_mark : MV yn_Clock_mark 10 := ⟨tb_i6 8 (by decide +kernel) (by decide +kernel), tb_i6 9 (by decide +kernel) (by decide +kernel), by decide, rfl⟩
theorem wml_143 : Cond.methodLink "HillClockLaw" 143 yn_Model_mark ∈ TBL := tb_i9 58 (by decide +kernel) (by decide +kernel)
theorem wmi_Model_mark : MI yn_Model_mark cd_Model_mark 5 (some .boolean) 2 := ⟨tb_i9 61 (by decide +kernel) (by decide +kernel), tb_i1 13 (by decide +kernel) (by decide +kernel), by decide +kernel, by decide +kernel, by decide +kernel, by decide⟩
theorem wmv_Model_mark : MV yn_Model_mark 11 := ⟨tb_i9 59 (by decide +kernel) (by decide +kernel), tb_i9 60 (by decide +kernel) (by decide +kernel), by decide, rfl⟩
theorem wml_144 : Cond.methodLink "HillClockLaw" 144 yn_Clock_count ∈ TBL := tb_i6 18 (by decide +kernel) (by decide +kernel)
theorem wmi_Clock_count : MI yn_Clock_count cd_Clock_count 2 (some .int) 1 := ⟨tb_i6 21 (by decide +kernel) (by decide +kernel), tb_i1 1 (by decide +kernel) (by decide +kernel), by decide +kernel, by decide +kernel, by decide +kernel, by decide⟩
theorem wmv_Clock_count : MV yn_Clock_count 10 := ⟨tb_i6 19 (by decide +kernel) (by decide +kernel), tb_i6 20 (by decide +kernel) (by decide +kernel), by decide, rfl⟩
theorem wml_147 : Cond.methodLink "HillClockLaw" 147 yn_Model_count ∈ TBL := tb_i9 66 (by decide +kernel) (by decide +kernel)
theorem wmi_Model_count : MI yn_Model_count cd_Model_count 2 (some .int) 1 := ⟨tb_i9 69 (by decide +kernel) (by decide +kernel), tb_i1 13 (by decide +kernel) (by decide +kernel), by decide +kernel, by decide +kernel, by decide +kernel, by decide⟩
theorem wmv_Model_count : MV yn_Model_count 11 := ⟨tb_i9 67 (by decide +kernel) (by decide +kernel), tb_i9 68 (by decide +kernel) (by decide +kernel), by decide, rfl⟩
end Ld
