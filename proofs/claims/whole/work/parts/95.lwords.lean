theorem dL_letter_0 : decode cL_letter 0 = .ok (.aload 4, 2) := by decide +kernel
theorem dL_letter_2 : decode cL_letter 2 = .ok (.iconst 0, 1) := by decide +kernel
theorem dL_letter_3 : decode cL_letter 3 = .ok (.aload_n 0, 1) := by decide +kernel
theorem dL_letter_4 : decode cL_letter 4 = .ok (.iload_n 1, 1) := by decide +kernel
theorem dL_letter_5 : decode cL_letter 5 = .ok (.iload_n 2, 1) := by decide +kernel
theorem dL_letter_6 : decode cL_letter 6 = .ok (.iload_n 3, 1) := by decide +kernel
theorem dL_letter_7 : decode cL_letter 7 = .ok (.invokevirtual 7, 3) := by decide +kernel
theorem dL_letter_10 : decode cL_letter 10 = .ok (.i2l, 1) := by decide +kernel
theorem dL_letter_11 : decode cL_letter 11 = .ok (.lastore, 1) := by decide +kernel
theorem dL_letter_12 : decode cL_letter 12 = .ok (.goto 7, 3) := by decide +kernel
theorem dL_letter_15 : decode cL_letter 15 = .ok (.astore 5, 2) := by decide +kernel
theorem dL_letter_17 : decode cL_letter 17 = .ok (.iconst 1, 1) := by decide +kernel
theorem dL_letter_18 : decode cL_letter 18 = .ok (.ireturn, 1) := by decide +kernel
theorem dL_letter_19 : decode cL_letter 19 = .ok (.iconst 0, 1) := by decide +kernel
theorem dL_letter_20 : decode cL_letter 20 = .ok (.ireturn, 1) := by decide +kernel
theorem dL_law_0 : decode cL_law 0 = .ok (.new 8, 3) := by decide +kernel
theorem dL_law_3 : decode cL_law 3 = .ok (.dup, 1) := by decide +kernel
theorem dL_law_4 : decode cL_law 4 = .ok (.invokespecial 15, 3) := by decide +kernel
theorem dL_law_7 : decode cL_law 7 = .ok (.astore_n 1, 1) := by decide +kernel
theorem dL_law_8 : decode cL_law 8 = .ok (.new 16, 3) := by decide +kernel
theorem dL_law_11 : decode cL_law 11 = .ok (.dup, 1) := by decide +kernel
theorem dL_law_12 : decode cL_law 12 = .ok (.invokespecial 18, 3) := by decide +kernel
theorem dL_law_15 : decode cL_law 15 = .ok (.astore_n 2, 1) := by decide +kernel
theorem dL_law_16 : decode cL_law 16 = .ok (.iconst 1, 1) := by decide +kernel
theorem dL_law_17 : decode cL_law 17 = .ok (.newarray .long, 2) := by decide +kernel
theorem dL_law_19 : decode cL_law 19 = .ok (.astore_n 3, 1) := by decide +kernel
theorem dL_law_20 : decode cL_law 20 = .ok (.iconst 0, 1) := by decide +kernel
theorem dL_law_21 : decode cL_law 21 = .ok (.istore 4, 2) := by decide +kernel
theorem dL_law_23 : decode cL_law 23 = .ok (.iload 4, 2) := by decide +kernel
theorem dL_law_25 : decode cL_law 25 = .ok (.aload_n 0, 1) := by decide +kernel
theorem dL_law_26 : decode cL_law 26 = .ok (.arraylength, 1) := by decide +kernel
theorem dL_law_27 : decode cL_law 27 = .ok (.bipush 6, 2) := by decide +kernel
theorem dL_law_29 : decode cL_law 29 = .ok (.isub, 1) := by decide +kernel
theorem dL_law_30 : decode cL_law 30 = .ok (.if_icmp .gt 1367, 3) := by decide +kernel
theorem dL_law_33 : decode cL_law 33 = .ok (.aload_n 0, 1) := by decide +kernel
theorem dL_law_34 : decode cL_law 34 = .ok (.iload 4, 2) := by decide +kernel
theorem dL_law_36 : decode cL_law 36 = .ok (.iaload, 1) := by decide +kernel
theorem dL_law_37 : decode cL_law 37 = .ok (.bipush 63, 2) := by decide +kernel
theorem dL_law_39 : decode cL_law 39 = .ok (.iand, 1) := by decide +kernel
theorem dL_law_40 : decode cL_law 40 = .ok (.tableswitch 1351 0 35 #[160, 233, 258, 271, 284, 309, 346, 383, 420, 469, 510, 535, 572, 609, 646, 671, 696, 721, 746, 759, 784, 845, 882, 907, 956, 981, 1006, 1043, 1092, 1141, 1166, 1179, 1204, 1229, 1325, 1338], 160) := by decide +kernel
theorem dL_law_200 : decode cL_law 200 = .ok (.aload_n 1, 1) := by decide +kernel
theorem dL_law_201 : decode cL_law 201 = .ok (.aload_n 0, 1) := by decide +kernel
theorem dL_law_202 : decode cL_law 202 = .ok (.iload 4, 2) := by decide +kernel
theorem dL_law_204 : decode cL_law 204 = .ok (.iconst 1, 1) := by decide +kernel
theorem dL_law_205 : decode cL_law 205 = .ok (.iadd, 1) := by decide +kernel
theorem dL_law_206 : decode cL_law 206 = .ok (.iaload, 1) := by decide +kernel
theorem dL_law_207 : decode cL_law 207 = .ok (.aload_n 0, 1) := by decide +kernel
theorem dL_law_208 : decode cL_law 208 = .ok (.iload 4, 2) := by decide +kernel
theorem dL_law_210 : decode cL_law 210 = .ok (.iconst 2, 1) := by decide +kernel
theorem dL_law_211 : decode cL_law 211 = .ok (.iadd, 1) := by decide +kernel
theorem dL_law_212 : decode cL_law 212 = .ok (.iaload, 1) := by decide +kernel
theorem dL_law_213 : decode cL_law 213 = .ok (.aload_n 0, 1) := by decide +kernel
theorem dL_law_214 : decode cL_law 214 = .ok (.iload 4, 2) := by decide +kernel
theorem dL_law_216 : decode cL_law 216 = .ok (.iconst 3, 1) := by decide +kernel
theorem dL_law_217 : decode cL_law 217 = .ok (.iadd, 1) := by decide +kernel
theorem dL_law_218 : decode cL_law 218 = .ok (.iaload, 1) := by decide +kernel
theorem dL_law_219 : decode cL_law 219 = .ok (.aload_n 0, 1) := by decide +kernel
theorem dL_law_220 : decode cL_law 220 = .ok (.iload 4, 2) := by decide +kernel
theorem dL_law_222 : decode cL_law 222 = .ok (.iconst 4, 1) := by decide +kernel
theorem dL_law_223 : decode cL_law 223 = .ok (.iadd, 1) := by decide +kernel
theorem dL_law_224 : decode cL_law 224 = .ok (.iaload, 1) := by decide +kernel
theorem dL_law_225 : decode cL_law 225 = .ok (.aload_n 0, 1) := by decide +kernel
theorem dL_law_226 : decode cL_law 226 = .ok (.iload 4, 2) := by decide +kernel
theorem dL_law_228 : decode cL_law 228 = .ok (.iconst 5, 1) := by decide +kernel
theorem dL_law_229 : decode cL_law 229 = .ok (.iadd, 1) := by decide +kernel
theorem dL_law_230 : decode cL_law 230 = .ok (.iaload, 1) := by decide +kernel
theorem dL_law_231 : decode cL_law 231 = .ok (.invokevirtual 19, 3) := by decide +kernel
theorem dL_law_234 : decode cL_law 234 = .ok (.aload_n 2, 1) := by decide +kernel
theorem dL_law_235 : decode cL_law 235 = .ok (.aload_n 0, 1) := by decide +kernel
theorem dL_law_236 : decode cL_law 236 = .ok (.iload 4, 2) := by decide +kernel
theorem dL_law_238 : decode cL_law 238 = .ok (.iconst 1, 1) := by decide +kernel
theorem dL_law_239 : decode cL_law 239 = .ok (.iadd, 1) := by decide +kernel
theorem dL_law_240 : decode cL_law 240 = .ok (.iaload, 1) := by decide +kernel
theorem dL_law_241 : decode cL_law 241 = .ok (.aload_n 0, 1) := by decide +kernel
theorem dL_law_242 : decode cL_law 242 = .ok (.iload 4, 2) := by decide +kernel
theorem dL_law_244 : decode cL_law 244 = .ok (.iconst 2, 1) := by decide +kernel
theorem dL_law_245 : decode cL_law 245 = .ok (.iadd, 1) := by decide +kernel
theorem dL_law_246 : decode cL_law 246 = .ok (.iaload, 1) := by decide +kernel
theorem dL_law_247 : decode cL_law 247 = .ok (.aload_n 0, 1) := by decide +kernel
theorem dL_law_248 : decode cL_law 248 = .ok (.iload 4, 2) := by decide +kernel
theorem dL_law_250 : decode cL_law 250 = .ok (.iconst 3, 1) := by decide +kernel
theorem dL_law_251 : decode cL_law 251 = .ok (.iadd, 1) := by decide +kernel
theorem dL_law_252 : decode cL_law 252 = .ok (.iaload, 1) := by decide +kernel
theorem dL_law_253 : decode cL_law 253 = .ok (.aload_n 0, 1) := by decide +kernel
theorem dL_law_254 : decode cL_law 254 = .ok (.iload 4, 2) := by decide +kernel
theorem dL_law_256 : decode cL_law 256 = .ok (.iconst 4, 1) := by decide +kernel
theorem dL_law_257 : decode cL_law 257 = .ok (.iadd, 1) := by decide +kernel
theorem dL_law_258 : decode cL_law 258 = .ok (.iaload, 1) := by decide +kernel
theorem dL_law_259 : decode cL_law 259 = .ok (.aload_n 0, 1) := by decide +kernel
theorem dL_law_260 : decode cL_law 260 = .ok (.iload 4, 2) := by decide +kernel
theorem dL_law_262 : decode cL_law 262 = .ok (.iconst 5, 1) := by decide +kernel
theorem dL_law_263 : decode cL_law 263 = .ok (.iadd, 1) := by decide +kernel
theorem dL_law_264 : decode cL_law 264 = .ok (.iaload, 1) := by decide +kernel
theorem dL_law_265 : decode cL_law 265 = .ok (.invokevirtual 23, 3) := by decide +kernel
theorem dL_law_268 : decode cL_law 268 = .ok (.if_icmp .eq 1123, 3) := by decide +kernel
theorem dL_law_271 : decode cL_law 271 = .ok (.iconst 0, 1) := by decide +kernel
theorem dL_law_272 : decode cL_law 272 = .ok (.ireturn, 1) := by decide +kernel
theorem dL_law_273 : decode cL_law 273 = .ok (.aload_n 1, 1) := by decide +kernel
theorem dL_law_274 : decode cL_law 274 = .ok (.aload_n 0, 1) := by decide +kernel
theorem dL_law_275 : decode cL_law 275 = .ok (.iload 4, 2) := by decide +kernel
theorem dL_law_277 : decode cL_law 277 = .ok (.iconst 1, 1) := by decide +kernel
theorem dL_law_278 : decode cL_law 278 = .ok (.iadd, 1) := by decide +kernel
theorem dL_law_279 : decode cL_law 279 = .ok (.iaload, 1) := by decide +kernel
theorem dL_law_280 : decode cL_law 280 = .ok (.invokevirtual 24, 3) := by decide +kernel
theorem dL_law_283 : decode cL_law 283 = .ok (.aload_n 2, 1) := by decide +kernel
theorem dL_law_284 : decode cL_law 284 = .ok (.aload_n 0, 1) := by decide +kernel
theorem dL_law_285 : decode cL_law 285 = .ok (.iload 4, 2) := by decide +kernel
theorem dL_law_287 : decode cL_law 287 = .ok (.iconst 1, 1) := by decide +kernel
theorem dL_law_288 : decode cL_law 288 = .ok (.iadd, 1) := by decide +kernel
theorem dL_law_289 : decode cL_law 289 = .ok (.iaload, 1) := by decide +kernel
theorem dL_law_290 : decode cL_law 290 = .ok (.invokevirtual 28, 3) := by decide +kernel
theorem dL_law_293 : decode cL_law 293 = .ok (.if_icmp .eq 1098, 3) := by decide +kernel
theorem dL_law_296 : decode cL_law 296 = .ok (.iconst 0, 1) := by decide +kernel
theorem dL_law_297 : decode cL_law 297 = .ok (.ireturn, 1) := by decide +kernel
theorem dL_law_298 : decode cL_law 298 = .ok (.aload_n 1, 1) := by decide +kernel
theorem dL_law_299 : decode cL_law 299 = .ok (.invokevirtual 29, 3) := by decide +kernel
theorem dL_law_302 : decode cL_law 302 = .ok (.aload_n 2, 1) := by decide +kernel
theorem dL_law_303 : decode cL_law 303 = .ok (.invokevirtual 33, 3) := by decide +kernel
theorem dL_law_306 : decode cL_law 306 = .ok (.if_icmp .eq 1085, 3) := by decide +kernel
theorem dL_law_309 : decode cL_law 309 = .ok (.iconst 0, 1) := by decide +kernel
theorem dL_law_310 : decode cL_law 310 = .ok (.ireturn, 1) := by decide +kernel
theorem dL_law_311 : decode cL_law 311 = .ok (.aload_n 1, 1) := by decide +kernel
theorem dL_law_312 : decode cL_law 312 = .ok (.invokevirtual 34, 3) := by decide +kernel
theorem dL_law_315 : decode cL_law 315 = .ok (.aload_n 2, 1) := by decide +kernel
theorem dL_law_316 : decode cL_law 316 = .ok (.invokevirtual 37, 3) := by decide +kernel
theorem dL_law_319 : decode cL_law 319 = .ok (.if_icmp .eq 1072, 3) := by decide +kernel
theorem dL_law_322 : decode cL_law 322 = .ok (.iconst 0, 1) := by decide +kernel
theorem dL_law_323 : decode cL_law 323 = .ok (.ireturn, 1) := by decide +kernel
theorem dL_law_324 : decode cL_law 324 = .ok (.aload_n 1, 1) := by decide +kernel
theorem dL_law_325 : decode cL_law 325 = .ok (.aload_n 0, 1) := by decide +kernel
theorem dL_law_326 : decode cL_law 326 = .ok (.iload 4, 2) := by decide +kernel
theorem dL_law_328 : decode cL_law 328 = .ok (.iconst 1, 1) := by decide +kernel
theorem dL_law_329 : decode cL_law 329 = .ok (.iadd, 1) := by decide +kernel
theorem dL_law_330 : decode cL_law 330 = .ok (.iaload, 1) := by decide +kernel
theorem dL_law_331 : decode cL_law 331 = .ok (.invokevirtual 38, 3) := by decide +kernel
theorem dL_law_334 : decode cL_law 334 = .ok (.aload_n 2, 1) := by decide +kernel
theorem dL_law_335 : decode cL_law 335 = .ok (.aload_n 0, 1) := by decide +kernel
theorem dL_law_336 : decode cL_law 336 = .ok (.iload 4, 2) := by decide +kernel
theorem dL_law_338 : decode cL_law 338 = .ok (.iconst 1, 1) := by decide +kernel
theorem dL_law_339 : decode cL_law 339 = .ok (.iadd, 1) := by decide +kernel
theorem dL_law_340 : decode cL_law 340 = .ok (.iaload, 1) := by decide +kernel
theorem dL_law_341 : decode cL_law 341 = .ok (.invokevirtual 41, 3) := by decide +kernel
theorem dL_law_344 : decode cL_law 344 = .ok (.if_icmp .eq 1047, 3) := by decide +kernel
theorem dL_law_347 : decode cL_law 347 = .ok (.iconst 0, 1) := by decide +kernel
theorem dL_law_348 : decode cL_law 348 = .ok (.ireturn, 1) := by decide +kernel
theorem dL_law_349 : decode cL_law 349 = .ok (.aload_n 1, 1) := by decide +kernel
theorem dL_law_350 : decode cL_law 350 = .ok (.aload_n 0, 1) := by decide +kernel
theorem dL_law_351 : decode cL_law 351 = .ok (.iload 4, 2) := by decide +kernel
theorem dL_law_353 : decode cL_law 353 = .ok (.iconst 1, 1) := by decide +kernel
theorem dL_law_354 : decode cL_law 354 = .ok (.iadd, 1) := by decide +kernel
theorem dL_law_355 : decode cL_law 355 = .ok (.iaload, 1) := by decide +kernel
theorem dL_law_356 : decode cL_law 356 = .ok (.aload_n 0, 1) := by decide +kernel
theorem dL_law_357 : decode cL_law 357 = .ok (.iload 4, 2) := by decide +kernel
theorem dL_law_359 : decode cL_law 359 = .ok (.iconst 2, 1) := by decide +kernel
theorem dL_law_360 : decode cL_law 360 = .ok (.iadd, 1) := by decide +kernel
theorem dL_law_361 : decode cL_law 361 = .ok (.iaload, 1) := by decide +kernel
theorem dL_law_362 : decode cL_law 362 = .ok (.invokevirtual 42, 3) := by decide +kernel
theorem dL_law_365 : decode cL_law 365 = .ok (.aload_n 2, 1) := by decide +kernel
theorem dL_law_366 : decode cL_law 366 = .ok (.aload_n 0, 1) := by decide +kernel
theorem dL_law_367 : decode cL_law 367 = .ok (.iload 4, 2) := by decide +kernel
theorem dL_law_369 : decode cL_law 369 = .ok (.iconst 1, 1) := by decide +kernel
theorem dL_law_370 : decode cL_law 370 = .ok (.iadd, 1) := by decide +kernel
theorem dL_law_371 : decode cL_law 371 = .ok (.iaload, 1) := by decide +kernel
theorem dL_law_372 : decode cL_law 372 = .ok (.aload_n 0, 1) := by decide +kernel
theorem dL_law_373 : decode cL_law 373 = .ok (.iload 4, 2) := by decide +kernel
theorem dL_law_375 : decode cL_law 375 = .ok (.iconst 2, 1) := by decide +kernel
theorem dL_law_376 : decode cL_law 376 = .ok (.iadd, 1) := by decide +kernel
theorem dL_law_377 : decode cL_law 377 = .ok (.iaload, 1) := by decide +kernel
theorem dL_law_378 : decode cL_law 378 = .ok (.invokevirtual 46, 3) := by decide +kernel
theorem dL_law_381 : decode cL_law 381 = .ok (.if_icmp .eq 1010, 3) := by decide +kernel
theorem dL_law_384 : decode cL_law 384 = .ok (.iconst 0, 1) := by decide +kernel
theorem dL_law_385 : decode cL_law 385 = .ok (.ireturn, 1) := by decide +kernel
theorem dL_law_386 : decode cL_law 386 = .ok (.aload_n 1, 1) := by decide +kernel
theorem dL_law_387 : decode cL_law 387 = .ok (.aload_n 0, 1) := by decide +kernel
theorem dL_law_388 : decode cL_law 388 = .ok (.iload 4, 2) := by decide +kernel
theorem dL_law_390 : decode cL_law 390 = .ok (.iconst 1, 1) := by decide +kernel
theorem dL_law_391 : decode cL_law 391 = .ok (.iadd, 1) := by decide +kernel
theorem dL_law_392 : decode cL_law 392 = .ok (.iaload, 1) := by decide +kernel
theorem dL_law_393 : decode cL_law 393 = .ok (.aload_n 0, 1) := by decide +kernel
theorem dL_law_394 : decode cL_law 394 = .ok (.iload 4, 2) := by decide +kernel
theorem dL_law_396 : decode cL_law 396 = .ok (.iconst 2, 1) := by decide +kernel
theorem dL_law_397 : decode cL_law 397 = .ok (.iadd, 1) := by decide +kernel
theorem dL_law_398 : decode cL_law 398 = .ok (.iaload, 1) := by decide +kernel
theorem dL_law_399 : decode cL_law 399 = .ok (.invokevirtual 47, 3) := by decide +kernel
theorem dL_law_402 : decode cL_law 402 = .ok (.aload_n 2, 1) := by decide +kernel
theorem dL_law_403 : decode cL_law 403 = .ok (.aload_n 0, 1) := by decide +kernel
theorem dL_law_404 : decode cL_law 404 = .ok (.iload 4, 2) := by decide +kernel
theorem dL_law_406 : decode cL_law 406 = .ok (.iconst 1, 1) := by decide +kernel
theorem dL_law_407 : decode cL_law 407 = .ok (.iadd, 1) := by decide +kernel
theorem dL_law_408 : decode cL_law 408 = .ok (.iaload, 1) := by decide +kernel
theorem dL_law_409 : decode cL_law 409 = .ok (.aload_n 0, 1) := by decide +kernel
theorem dL_law_410 : decode cL_law 410 = .ok (.iload 4, 2) := by decide +kernel
theorem dL_law_412 : decode cL_law 412 = .ok (.iconst 2, 1) := by decide +kernel
theorem dL_law_413 : decode cL_law 413 = .ok (.iadd, 1) := by decide +kernel
theorem dL_law_414 : decode cL_law 414 = .ok (.iaload, 1) := by decide +kernel
theorem dL_law_415 : decode cL_law 415 = .ok (.invokevirtual 50, 3) := by decide +kernel
theorem dL_law_418 : decode cL_law 418 = .ok (.if_icmp .eq 973, 3) := by decide +kernel
theorem dL_law_421 : decode cL_law 421 = .ok (.iconst 0, 1) := by decide +kernel
theorem dL_law_422 : decode cL_law 422 = .ok (.ireturn, 1) := by decide +kernel
theorem dL_law_423 : decode cL_law 423 = .ok (.aload_n 1, 1) := by decide +kernel
theorem dL_law_424 : decode cL_law 424 = .ok (.aload_n 0, 1) := by decide +kernel
theorem dL_law_425 : decode cL_law 425 = .ok (.iload 4, 2) := by decide +kernel
theorem dL_law_427 : decode cL_law 427 = .ok (.iconst 1, 1) := by decide +kernel
theorem dL_law_428 : decode cL_law 428 = .ok (.iadd, 1) := by decide +kernel
theorem dL_law_429 : decode cL_law 429 = .ok (.iaload, 1) := by decide +kernel
theorem dL_law_430 : decode cL_law 430 = .ok (.aload_n 0, 1) := by decide +kernel
theorem dL_law_431 : decode cL_law 431 = .ok (.iload 4, 2) := by decide +kernel
theorem dL_law_433 : decode cL_law 433 = .ok (.iconst 2, 1) := by decide +kernel
theorem dL_law_434 : decode cL_law 434 = .ok (.iadd, 1) := by decide +kernel
theorem dL_law_435 : decode cL_law 435 = .ok (.iaload, 1) := by decide +kernel
theorem dL_law_436 : decode cL_law 436 = .ok (.invokevirtual 51, 3) := by decide +kernel
theorem dL_law_439 : decode cL_law 439 = .ok (.aload_n 2, 1) := by decide +kernel
theorem dL_law_440 : decode cL_law 440 = .ok (.aload_n 0, 1) := by decide +kernel
theorem dL_law_441 : decode cL_law 441 = .ok (.iload 4, 2) := by decide +kernel
theorem dL_law_443 : decode cL_law 443 = .ok (.iconst 1, 1) := by decide +kernel
theorem dL_law_444 : decode cL_law 444 = .ok (.iadd, 1) := by decide +kernel
theorem dL_law_445 : decode cL_law 445 = .ok (.iaload, 1) := by decide +kernel
theorem dL_law_446 : decode cL_law 446 = .ok (.aload_n 0, 1) := by decide +kernel
theorem dL_law_447 : decode cL_law 447 = .ok (.iload 4, 2) := by decide +kernel
theorem dL_law_449 : decode cL_law 449 = .ok (.iconst 2, 1) := by decide +kernel
theorem dL_law_450 : decode cL_law 450 = .ok (.iadd, 1) := by decide +kernel
theorem dL_law_451 : decode cL_law 451 = .ok (.iaload, 1) := by decide +kernel
theorem dL_law_452 : decode cL_law 452 = .ok (.invokevirtual 54, 3) := by decide +kernel
theorem dL_law_455 : decode cL_law 455 = .ok (.if_icmp .eq 936, 3) := by decide +kernel
theorem dL_law_458 : decode cL_law 458 = .ok (.iconst 0, 1) := by decide +kernel
theorem dL_law_459 : decode cL_law 459 = .ok (.ireturn, 1) := by decide +kernel
theorem dL_law_460 : decode cL_law 460 = .ok (.aload_n 1, 1) := by decide +kernel
theorem dL_law_461 : decode cL_law 461 = .ok (.aload_n 0, 1) := by decide +kernel
theorem dL_law_462 : decode cL_law 462 = .ok (.iload 4, 2) := by decide +kernel
theorem dL_law_464 : decode cL_law 464 = .ok (.iconst 1, 1) := by decide +kernel
theorem dL_law_465 : decode cL_law 465 = .ok (.iadd, 1) := by decide +kernel
theorem dL_law_466 : decode cL_law 466 = .ok (.iaload, 1) := by decide +kernel
theorem dL_law_467 : decode cL_law 467 = .ok (.aload_n 0, 1) := by decide +kernel
theorem dL_law_468 : decode cL_law 468 = .ok (.iload 4, 2) := by decide +kernel
theorem dL_law_470 : decode cL_law 470 = .ok (.iconst 2, 1) := by decide +kernel
theorem dL_law_471 : decode cL_law 471 = .ok (.iadd, 1) := by decide +kernel
theorem dL_law_472 : decode cL_law 472 = .ok (.iaload, 1) := by decide +kernel
theorem dL_law_473 : decode cL_law 473 = .ok (.aload_n 0, 1) := by decide +kernel
theorem dL_law_474 : decode cL_law 474 = .ok (.iload 4, 2) := by decide +kernel
theorem dL_law_476 : decode cL_law 476 = .ok (.iconst 3, 1) := by decide +kernel
theorem dL_law_477 : decode cL_law 477 = .ok (.iadd, 1) := by decide +kernel
theorem dL_law_478 : decode cL_law 478 = .ok (.iaload, 1) := by decide +kernel
theorem dL_law_479 : decode cL_law 479 = .ok (.invokevirtual 55, 3) := by decide +kernel
theorem dL_law_482 : decode cL_law 482 = .ok (.aload_n 2, 1) := by decide +kernel
theorem dL_law_483 : decode cL_law 483 = .ok (.aload_n 0, 1) := by decide +kernel
theorem dL_law_484 : decode cL_law 484 = .ok (.iload 4, 2) := by decide +kernel
theorem dL_law_486 : decode cL_law 486 = .ok (.iconst 1, 1) := by decide +kernel
theorem dL_law_487 : decode cL_law 487 = .ok (.iadd, 1) := by decide +kernel
theorem dL_law_488 : decode cL_law 488 = .ok (.iaload, 1) := by decide +kernel
theorem dL_law_489 : decode cL_law 489 = .ok (.aload_n 0, 1) := by decide +kernel
theorem dL_law_490 : decode cL_law 490 = .ok (.iload 4, 2) := by decide +kernel
theorem dL_law_492 : decode cL_law 492 = .ok (.iconst 2, 1) := by decide +kernel
theorem dL_law_493 : decode cL_law 493 = .ok (.iadd, 1) := by decide +kernel
theorem dL_law_494 : decode cL_law 494 = .ok (.iaload, 1) := by decide +kernel
theorem dL_law_495 : decode cL_law 495 = .ok (.aload_n 0, 1) := by decide +kernel
theorem dL_law_496 : decode cL_law 496 = .ok (.iload 4, 2) := by decide +kernel
theorem dL_law_498 : decode cL_law 498 = .ok (.iconst 3, 1) := by decide +kernel
theorem dL_law_499 : decode cL_law 499 = .ok (.iadd, 1) := by decide +kernel
theorem dL_law_500 : decode cL_law 500 = .ok (.iaload, 1) := by decide +kernel
theorem dL_law_501 : decode cL_law 501 = .ok (.invokevirtual 59, 3) := by decide +kernel
theorem dL_law_504 : decode cL_law 504 = .ok (.if_icmp .eq 887, 3) := by decide +kernel
theorem dL_law_507 : decode cL_law 507 = .ok (.iconst 0, 1) := by decide +kernel
theorem dL_law_508 : decode cL_law 508 = .ok (.ireturn, 1) := by decide +kernel
theorem dL_law_509 : decode cL_law 509 = .ok (.aload_n 1, 1) := by decide +kernel
theorem dL_law_510 : decode cL_law 510 = .ok (.aload_n 0, 1) := by decide +kernel
theorem dL_law_511 : decode cL_law 511 = .ok (.iload 4, 2) := by decide +kernel
theorem dL_law_513 : decode cL_law 513 = .ok (.iconst 1, 1) := by decide +kernel
theorem dL_law_514 : decode cL_law 514 = .ok (.iadd, 1) := by decide +kernel
theorem dL_law_515 : decode cL_law 515 = .ok (.iaload, 1) := by decide +kernel
theorem dL_law_516 : decode cL_law 516 = .ok (.ifCond .eq 7, 3) := by decide +kernel
theorem dL_law_519 : decode cL_law 519 = .ok (.iconst 1, 1) := by decide +kernel
theorem dL_law_520 : decode cL_law 520 = .ok (.goto 4, 3) := by decide +kernel
theorem dL_law_523 : decode cL_law 523 = .ok (.iconst 0, 1) := by decide +kernel
theorem dL_law_524 : decode cL_law 524 = .ok (.invokevirtual 60, 3) := by decide +kernel
theorem dL_law_527 : decode cL_law 527 = .ok (.aload_n 2, 1) := by decide +kernel
theorem dL_law_528 : decode cL_law 528 = .ok (.aload_n 0, 1) := by decide +kernel
theorem dL_law_529 : decode cL_law 529 = .ok (.iload 4, 2) := by decide +kernel
theorem dL_law_531 : decode cL_law 531 = .ok (.iconst 1, 1) := by decide +kernel
theorem dL_law_532 : decode cL_law 532 = .ok (.iadd, 1) := by decide +kernel
theorem dL_law_533 : decode cL_law 533 = .ok (.iaload, 1) := by decide +kernel
theorem dL_law_534 : decode cL_law 534 = .ok (.ifCond .eq 7, 3) := by decide +kernel
theorem dL_law_537 : decode cL_law 537 = .ok (.iconst 1, 1) := by decide +kernel
theorem dL_law_538 : decode cL_law 538 = .ok (.goto 4, 3) := by decide +kernel
theorem dL_law_541 : decode cL_law 541 = .ok (.iconst 0, 1) := by decide +kernel
theorem dL_law_542 : decode cL_law 542 = .ok (.invokevirtual 64, 3) := by decide +kernel
theorem dL_law_545 : decode cL_law 545 = .ok (.if_icmp .eq 846, 3) := by decide +kernel
theorem dL_law_548 : decode cL_law 548 = .ok (.iconst 0, 1) := by decide +kernel
theorem dL_law_549 : decode cL_law 549 = .ok (.ireturn, 1) := by decide +kernel
theorem dL_law_550 : decode cL_law 550 = .ok (.aload_n 1, 1) := by decide +kernel
theorem dL_law_551 : decode cL_law 551 = .ok (.aload_n 0, 1) := by decide +kernel
theorem dL_law_552 : decode cL_law 552 = .ok (.iload 4, 2) := by decide +kernel
theorem dL_law_554 : decode cL_law 554 = .ok (.iconst 1, 1) := by decide +kernel
theorem dL_law_555 : decode cL_law 555 = .ok (.iadd, 1) := by decide +kernel
theorem dL_law_556 : decode cL_law 556 = .ok (.iaload, 1) := by decide +kernel
theorem dL_law_557 : decode cL_law 557 = .ok (.invokevirtual 65, 3) := by decide +kernel
theorem dL_law_560 : decode cL_law 560 = .ok (.aload_n 2, 1) := by decide +kernel
theorem dL_law_561 : decode cL_law 561 = .ok (.aload_n 0, 1) := by decide +kernel
theorem dL_law_562 : decode cL_law 562 = .ok (.iload 4, 2) := by decide +kernel
theorem dL_law_564 : decode cL_law 564 = .ok (.iconst 1, 1) := by decide +kernel
theorem dL_law_565 : decode cL_law 565 = .ok (.iadd, 1) := by decide +kernel
theorem dL_law_566 : decode cL_law 566 = .ok (.iaload, 1) := by decide +kernel
theorem dL_law_567 : decode cL_law 567 = .ok (.invokevirtual 68, 3) := by decide +kernel
theorem dL_law_570 : decode cL_law 570 = .ok (.if_icmp .eq 821, 3) := by decide +kernel
theorem dL_law_573 : decode cL_law 573 = .ok (.iconst 0, 1) := by decide +kernel
theorem dL_law_574 : decode cL_law 574 = .ok (.ireturn, 1) := by decide +kernel
theorem dL_law_575 : decode cL_law 575 = .ok (.aload_n 1, 1) := by decide +kernel
theorem dL_law_576 : decode cL_law 576 = .ok (.aload_n 0, 1) := by decide +kernel
theorem dL_law_577 : decode cL_law 577 = .ok (.iload 4, 2) := by decide +kernel
theorem dL_law_579 : decode cL_law 579 = .ok (.iconst 1, 1) := by decide +kernel
theorem dL_law_580 : decode cL_law 580 = .ok (.iadd, 1) := by decide +kernel
theorem dL_law_581 : decode cL_law 581 = .ok (.iaload, 1) := by decide +kernel
theorem dL_law_582 : decode cL_law 582 = .ok (.aload_n 0, 1) := by decide +kernel
theorem dL_law_583 : decode cL_law 583 = .ok (.iload 4, 2) := by decide +kernel
theorem dL_law_585 : decode cL_law 585 = .ok (.iconst 2, 1) := by decide +kernel
theorem dL_law_586 : decode cL_law 586 = .ok (.iadd, 1) := by decide +kernel
theorem dL_law_587 : decode cL_law 587 = .ok (.iaload, 1) := by decide +kernel
theorem dL_law_588 : decode cL_law 588 = .ok (.invokevirtual 69, 3) := by decide +kernel
theorem dL_law_591 : decode cL_law 591 = .ok (.aload_n 2, 1) := by decide +kernel
theorem dL_law_592 : decode cL_law 592 = .ok (.aload_n 0, 1) := by decide +kernel
theorem dL_law_593 : decode cL_law 593 = .ok (.iload 4, 2) := by decide +kernel
theorem dL_law_595 : decode cL_law 595 = .ok (.iconst 1, 1) := by decide +kernel
theorem dL_law_596 : decode cL_law 596 = .ok (.iadd, 1) := by decide +kernel
theorem dL_law_597 : decode cL_law 597 = .ok (.iaload, 1) := by decide +kernel
theorem dL_law_598 : decode cL_law 598 = .ok (.aload_n 0, 1) := by decide +kernel
theorem dL_law_599 : decode cL_law 599 = .ok (.iload 4, 2) := by decide +kernel
theorem dL_law_601 : decode cL_law 601 = .ok (.iconst 2, 1) := by decide +kernel
theorem dL_law_602 : decode cL_law 602 = .ok (.iadd, 1) := by decide +kernel
theorem dL_law_603 : decode cL_law 603 = .ok (.iaload, 1) := by decide +kernel
theorem dL_law_604 : decode cL_law 604 = .ok (.invokevirtual 72, 3) := by decide +kernel
theorem dL_law_607 : decode cL_law 607 = .ok (.if_icmp .eq 784, 3) := by decide +kernel
theorem dL_law_610 : decode cL_law 610 = .ok (.iconst 0, 1) := by decide +kernel
theorem dL_law_611 : decode cL_law 611 = .ok (.ireturn, 1) := by decide +kernel
theorem dL_law_612 : decode cL_law 612 = .ok (.aload_n 1, 1) := by decide +kernel
theorem dL_law_613 : decode cL_law 613 = .ok (.aload_n 0, 1) := by decide +kernel
theorem dL_law_614 : decode cL_law 614 = .ok (.iload 4, 2) := by decide +kernel
theorem dL_law_616 : decode cL_law 616 = .ok (.iconst 1, 1) := by decide +kernel
theorem dL_law_617 : decode cL_law 617 = .ok (.iadd, 1) := by decide +kernel
theorem dL_law_618 : decode cL_law 618 = .ok (.iaload, 1) := by decide +kernel
theorem dL_law_619 : decode cL_law 619 = .ok (.aload_n 0, 1) := by decide +kernel
theorem dL_law_620 : decode cL_law 620 = .ok (.iload 4, 2) := by decide +kernel
theorem dL_law_622 : decode cL_law 622 = .ok (.iconst 2, 1) := by decide +kernel
theorem dL_law_623 : decode cL_law 623 = .ok (.iadd, 1) := by decide +kernel
theorem dL_law_624 : decode cL_law 624 = .ok (.iaload, 1) := by decide +kernel
theorem dL_law_625 : decode cL_law 625 = .ok (.invokevirtual 73, 3) := by decide +kernel
theorem dL_law_628 : decode cL_law 628 = .ok (.aload_n 2, 1) := by decide +kernel
theorem dL_law_629 : decode cL_law 629 = .ok (.aload_n 0, 1) := by decide +kernel
theorem dL_law_630 : decode cL_law 630 = .ok (.iload 4, 2) := by decide +kernel
theorem dL_law_632 : decode cL_law 632 = .ok (.iconst 1, 1) := by decide +kernel
theorem dL_law_633 : decode cL_law 633 = .ok (.iadd, 1) := by decide +kernel
theorem dL_law_634 : decode cL_law 634 = .ok (.iaload, 1) := by decide +kernel
theorem dL_law_635 : decode cL_law 635 = .ok (.aload_n 0, 1) := by decide +kernel
theorem dL_law_636 : decode cL_law 636 = .ok (.iload 4, 2) := by decide +kernel
theorem dL_law_638 : decode cL_law 638 = .ok (.iconst 2, 1) := by decide +kernel
theorem dL_law_639 : decode cL_law 639 = .ok (.iadd, 1) := by decide +kernel
theorem dL_law_640 : decode cL_law 640 = .ok (.iaload, 1) := by decide +kernel
theorem dL_law_641 : decode cL_law 641 = .ok (.invokevirtual 76, 3) := by decide +kernel
theorem dL_law_644 : decode cL_law 644 = .ok (.if_icmp .eq 747, 3) := by decide +kernel
theorem dL_law_647 : decode cL_law 647 = .ok (.iconst 0, 1) := by decide +kernel
theorem dL_law_648 : decode cL_law 648 = .ok (.ireturn, 1) := by decide +kernel
theorem dL_law_649 : decode cL_law 649 = .ok (.aload_n 1, 1) := by decide +kernel
theorem dL_law_650 : decode cL_law 650 = .ok (.aload_n 0, 1) := by decide +kernel
theorem dL_law_651 : decode cL_law 651 = .ok (.iload 4, 2) := by decide +kernel
theorem dL_law_653 : decode cL_law 653 = .ok (.iconst 1, 1) := by decide +kernel
theorem dL_law_654 : decode cL_law 654 = .ok (.iadd, 1) := by decide +kernel
theorem dL_law_655 : decode cL_law 655 = .ok (.iaload, 1) := by decide +kernel
theorem dL_law_656 : decode cL_law 656 = .ok (.aload_n 0, 1) := by decide +kernel
theorem dL_law_657 : decode cL_law 657 = .ok (.iload 4, 2) := by decide +kernel
theorem dL_law_659 : decode cL_law 659 = .ok (.iconst 2, 1) := by decide +kernel
theorem dL_law_660 : decode cL_law 660 = .ok (.iadd, 1) := by decide +kernel
theorem dL_law_661 : decode cL_law 661 = .ok (.iaload, 1) := by decide +kernel
theorem dL_law_662 : decode cL_law 662 = .ok (.invokevirtual 77, 3) := by decide +kernel
theorem dL_law_665 : decode cL_law 665 = .ok (.aload_n 2, 1) := by decide +kernel
theorem dL_law_666 : decode cL_law 666 = .ok (.aload_n 0, 1) := by decide +kernel
theorem dL_law_667 : decode cL_law 667 = .ok (.iload 4, 2) := by decide +kernel
theorem dL_law_669 : decode cL_law 669 = .ok (.iconst 1, 1) := by decide +kernel
theorem dL_law_670 : decode cL_law 670 = .ok (.iadd, 1) := by decide +kernel
theorem dL_law_671 : decode cL_law 671 = .ok (.iaload, 1) := by decide +kernel
theorem dL_law_672 : decode cL_law 672 = .ok (.aload_n 0, 1) := by decide +kernel
theorem dL_law_673 : decode cL_law 673 = .ok (.iload 4, 2) := by decide +kernel
theorem dL_law_675 : decode cL_law 675 = .ok (.iconst 2, 1) := by decide +kernel
theorem dL_law_676 : decode cL_law 676 = .ok (.iadd, 1) := by decide +kernel
theorem dL_law_677 : decode cL_law 677 = .ok (.iaload, 1) := by decide +kernel
theorem dL_law_678 : decode cL_law 678 = .ok (.invokevirtual 80, 3) := by decide +kernel
theorem dL_law_681 : decode cL_law 681 = .ok (.if_icmp .eq 710, 3) := by decide +kernel
theorem dL_law_684 : decode cL_law 684 = .ok (.iconst 0, 1) := by decide +kernel
theorem dL_law_685 : decode cL_law 685 = .ok (.ireturn, 1) := by decide +kernel
theorem dL_law_686 : decode cL_law 686 = .ok (.aload_n 1, 1) := by decide +kernel
theorem dL_law_687 : decode cL_law 687 = .ok (.aload_n 0, 1) := by decide +kernel
theorem dL_law_688 : decode cL_law 688 = .ok (.iload 4, 2) := by decide +kernel
theorem dL_law_690 : decode cL_law 690 = .ok (.iconst 1, 1) := by decide +kernel
theorem dL_law_691 : decode cL_law 691 = .ok (.iadd, 1) := by decide +kernel
theorem dL_law_692 : decode cL_law 692 = .ok (.iaload, 1) := by decide +kernel
theorem dL_law_693 : decode cL_law 693 = .ok (.invokevirtual 81, 3) := by decide +kernel
theorem dL_law_696 : decode cL_law 696 = .ok (.aload_n 2, 1) := by decide +kernel
theorem dL_law_697 : decode cL_law 697 = .ok (.aload_n 0, 1) := by decide +kernel
theorem dL_law_698 : decode cL_law 698 = .ok (.iload 4, 2) := by decide +kernel
theorem dL_law_700 : decode cL_law 700 = .ok (.iconst 1, 1) := by decide +kernel
theorem dL_law_701 : decode cL_law 701 = .ok (.iadd, 1) := by decide +kernel
theorem dL_law_702 : decode cL_law 702 = .ok (.iaload, 1) := by decide +kernel
theorem dL_law_703 : decode cL_law 703 = .ok (.invokevirtual 84, 3) := by decide +kernel
theorem dL_law_706 : decode cL_law 706 = .ok (.if_icmp .eq 685, 3) := by decide +kernel
theorem dL_law_709 : decode cL_law 709 = .ok (.iconst 0, 1) := by decide +kernel
theorem dL_law_710 : decode cL_law 710 = .ok (.ireturn, 1) := by decide +kernel
theorem dL_law_711 : decode cL_law 711 = .ok (.aload_n 1, 1) := by decide +kernel
theorem dL_law_712 : decode cL_law 712 = .ok (.aload_n 0, 1) := by decide +kernel
theorem dL_law_713 : decode cL_law 713 = .ok (.iload 4, 2) := by decide +kernel
theorem dL_law_715 : decode cL_law 715 = .ok (.iconst 1, 1) := by decide +kernel
theorem dL_law_716 : decode cL_law 716 = .ok (.iadd, 1) := by decide +kernel
theorem dL_law_717 : decode cL_law 717 = .ok (.iaload, 1) := by decide +kernel
theorem dL_law_718 : decode cL_law 718 = .ok (.invokevirtual 85, 3) := by decide +kernel
theorem dL_law_721 : decode cL_law 721 = .ok (.aload_n 2, 1) := by decide +kernel
theorem dL_law_722 : decode cL_law 722 = .ok (.aload_n 0, 1) := by decide +kernel
theorem dL_law_723 : decode cL_law 723 = .ok (.iload 4, 2) := by decide +kernel
theorem dL_law_725 : decode cL_law 725 = .ok (.iconst 1, 1) := by decide +kernel
theorem dL_law_726 : decode cL_law 726 = .ok (.iadd, 1) := by decide +kernel
theorem dL_law_727 : decode cL_law 727 = .ok (.iaload, 1) := by decide +kernel
theorem dL_law_728 : decode cL_law 728 = .ok (.invokevirtual 88, 3) := by decide +kernel
theorem dL_law_731 : decode cL_law 731 = .ok (.if_icmp .eq 660, 3) := by decide +kernel
theorem dL_law_734 : decode cL_law 734 = .ok (.iconst 0, 1) := by decide +kernel
theorem dL_law_735 : decode cL_law 735 = .ok (.ireturn, 1) := by decide +kernel
theorem dL_law_736 : decode cL_law 736 = .ok (.aload_n 1, 1) := by decide +kernel
theorem dL_law_737 : decode cL_law 737 = .ok (.aload_n 0, 1) := by decide +kernel
theorem dL_law_738 : decode cL_law 738 = .ok (.iload 4, 2) := by decide +kernel
theorem dL_law_740 : decode cL_law 740 = .ok (.iconst 1, 1) := by decide +kernel
theorem dL_law_741 : decode cL_law 741 = .ok (.iadd, 1) := by decide +kernel
theorem dL_law_742 : decode cL_law 742 = .ok (.iaload, 1) := by decide +kernel
theorem dL_law_743 : decode cL_law 743 = .ok (.invokevirtual 89, 3) := by decide +kernel
theorem dL_law_746 : decode cL_law 746 = .ok (.aload_n 2, 1) := by decide +kernel
theorem dL_law_747 : decode cL_law 747 = .ok (.aload_n 0, 1) := by decide +kernel
theorem dL_law_748 : decode cL_law 748 = .ok (.iload 4, 2) := by decide +kernel
theorem dL_law_750 : decode cL_law 750 = .ok (.iconst 1, 1) := by decide +kernel
theorem dL_law_751 : decode cL_law 751 = .ok (.iadd, 1) := by decide +kernel
theorem dL_law_752 : decode cL_law 752 = .ok (.iaload, 1) := by decide +kernel
theorem dL_law_753 : decode cL_law 753 = .ok (.invokevirtual 92, 3) := by decide +kernel
theorem dL_law_756 : decode cL_law 756 = .ok (.if_icmp .eq 635, 3) := by decide +kernel
theorem dL_law_759 : decode cL_law 759 = .ok (.iconst 0, 1) := by decide +kernel
theorem dL_law_760 : decode cL_law 760 = .ok (.ireturn, 1) := by decide +kernel
theorem dL_law_761 : decode cL_law 761 = .ok (.aload_n 1, 1) := by decide +kernel
theorem dL_law_762 : decode cL_law 762 = .ok (.aload_n 0, 1) := by decide +kernel
theorem dL_law_763 : decode cL_law 763 = .ok (.iload 4, 2) := by decide +kernel
theorem dL_law_765 : decode cL_law 765 = .ok (.iconst 1, 1) := by decide +kernel
theorem dL_law_766 : decode cL_law 766 = .ok (.iadd, 1) := by decide +kernel
theorem dL_law_767 : decode cL_law 767 = .ok (.iaload, 1) := by decide +kernel
theorem dL_law_768 : decode cL_law 768 = .ok (.invokevirtual 93, 3) := by decide +kernel
theorem dL_law_771 : decode cL_law 771 = .ok (.aload_n 2, 1) := by decide +kernel
theorem dL_law_772 : decode cL_law 772 = .ok (.aload_n 0, 1) := by decide +kernel
theorem dL_law_773 : decode cL_law 773 = .ok (.iload 4, 2) := by decide +kernel
theorem dL_law_775 : decode cL_law 775 = .ok (.iconst 1, 1) := by decide +kernel
theorem dL_law_776 : decode cL_law 776 = .ok (.iadd, 1) := by decide +kernel
theorem dL_law_777 : decode cL_law 777 = .ok (.iaload, 1) := by decide +kernel
theorem dL_law_778 : decode cL_law 778 = .ok (.invokevirtual 96, 3) := by decide +kernel
theorem dL_law_781 : decode cL_law 781 = .ok (.if_icmp .eq 610, 3) := by decide +kernel
theorem dL_law_784 : decode cL_law 784 = .ok (.iconst 0, 1) := by decide +kernel
theorem dL_law_785 : decode cL_law 785 = .ok (.ireturn, 1) := by decide +kernel
theorem dL_law_786 : decode cL_law 786 = .ok (.aload_n 1, 1) := by decide +kernel
theorem dL_law_787 : decode cL_law 787 = .ok (.invokevirtual 97, 3) := by decide +kernel
theorem dL_law_790 : decode cL_law 790 = .ok (.aload_n 2, 1) := by decide +kernel
theorem dL_law_791 : decode cL_law 791 = .ok (.invokevirtual 100, 3) := by decide +kernel
theorem dL_law_794 : decode cL_law 794 = .ok (.if_icmp .eq 597, 3) := by decide +kernel
theorem dL_law_797 : decode cL_law 797 = .ok (.iconst 0, 1) := by decide +kernel
theorem dL_law_798 : decode cL_law 798 = .ok (.ireturn, 1) := by decide +kernel
theorem dL_law_799 : decode cL_law 799 = .ok (.aload_n 1, 1) := by decide +kernel
theorem dL_law_800 : decode cL_law 800 = .ok (.aload_n 0, 1) := by decide +kernel
theorem dL_law_801 : decode cL_law 801 = .ok (.iload 4, 2) := by decide +kernel
theorem dL_law_803 : decode cL_law 803 = .ok (.iconst 1, 1) := by decide +kernel
theorem dL_law_804 : decode cL_law 804 = .ok (.iadd, 1) := by decide +kernel
theorem dL_law_805 : decode cL_law 805 = .ok (.iaload, 1) := by decide +kernel
theorem dL_law_806 : decode cL_law 806 = .ok (.invokevirtual 101, 3) := by decide +kernel
theorem dL_law_809 : decode cL_law 809 = .ok (.aload_n 2, 1) := by decide +kernel
theorem dL_law_810 : decode cL_law 810 = .ok (.aload_n 0, 1) := by decide +kernel
theorem dL_law_811 : decode cL_law 811 = .ok (.iload 4, 2) := by decide +kernel
theorem dL_law_813 : decode cL_law 813 = .ok (.iconst 1, 1) := by decide +kernel
theorem dL_law_814 : decode cL_law 814 = .ok (.iadd, 1) := by decide +kernel
theorem dL_law_815 : decode cL_law 815 = .ok (.iaload, 1) := by decide +kernel
theorem dL_law_816 : decode cL_law 816 = .ok (.invokevirtual 104, 3) := by decide +kernel
theorem dL_law_819 : decode cL_law 819 = .ok (.if_icmp .eq 572, 3) := by decide +kernel
theorem dL_law_822 : decode cL_law 822 = .ok (.iconst 0, 1) := by decide +kernel
theorem dL_law_823 : decode cL_law 823 = .ok (.ireturn, 1) := by decide +kernel
theorem dL_law_824 : decode cL_law 824 = .ok (.aload_n 1, 1) := by decide +kernel
theorem dL_law_825 : decode cL_law 825 = .ok (.aload_n 0, 1) := by decide +kernel
theorem dL_law_826 : decode cL_law 826 = .ok (.iload 4, 2) := by decide +kernel
theorem dL_law_828 : decode cL_law 828 = .ok (.iconst 1, 1) := by decide +kernel
theorem dL_law_829 : decode cL_law 829 = .ok (.iadd, 1) := by decide +kernel
theorem dL_law_830 : decode cL_law 830 = .ok (.iaload, 1) := by decide +kernel
theorem dL_law_831 : decode cL_law 831 = .ok (.aload_n 0, 1) := by decide +kernel
theorem dL_law_832 : decode cL_law 832 = .ok (.iload 4, 2) := by decide +kernel
theorem dL_law_834 : decode cL_law 834 = .ok (.iconst 2, 1) := by decide +kernel
theorem dL_law_835 : decode cL_law 835 = .ok (.iadd, 1) := by decide +kernel
theorem dL_law_836 : decode cL_law 836 = .ok (.iaload, 1) := by decide +kernel
theorem dL_law_837 : decode cL_law 837 = .ok (.aload_n 0, 1) := by decide +kernel
theorem dL_law_838 : decode cL_law 838 = .ok (.iload 4, 2) := by decide +kernel
theorem dL_law_840 : decode cL_law 840 = .ok (.iconst 3, 1) := by decide +kernel
theorem dL_law_841 : decode cL_law 841 = .ok (.iadd, 1) := by decide +kernel
theorem dL_law_842 : decode cL_law 842 = .ok (.iaload, 1) := by decide +kernel
theorem dL_law_843 : decode cL_law 843 = .ok (.aload_n 0, 1) := by decide +kernel
theorem dL_law_844 : decode cL_law 844 = .ok (.iload 4, 2) := by decide +kernel
theorem dL_law_846 : decode cL_law 846 = .ok (.iconst 4, 1) := by decide +kernel
theorem dL_law_847 : decode cL_law 847 = .ok (.iadd, 1) := by decide +kernel
theorem dL_law_848 : decode cL_law 848 = .ok (.iaload, 1) := by decide +kernel
theorem dL_law_849 : decode cL_law 849 = .ok (.invokevirtual 105, 3) := by decide +kernel
theorem dL_law_852 : decode cL_law 852 = .ok (.aload_n 2, 1) := by decide +kernel
theorem dL_law_853 : decode cL_law 853 = .ok (.aload_n 0, 1) := by decide +kernel
theorem dL_law_854 : decode cL_law 854 = .ok (.iload 4, 2) := by decide +kernel
theorem dL_law_856 : decode cL_law 856 = .ok (.iconst 1, 1) := by decide +kernel
theorem dL_law_857 : decode cL_law 857 = .ok (.iadd, 1) := by decide +kernel
theorem dL_law_858 : decode cL_law 858 = .ok (.iaload, 1) := by decide +kernel
theorem dL_law_859 : decode cL_law 859 = .ok (.aload_n 0, 1) := by decide +kernel
theorem dL_law_860 : decode cL_law 860 = .ok (.iload 4, 2) := by decide +kernel
theorem dL_law_862 : decode cL_law 862 = .ok (.iconst 2, 1) := by decide +kernel
theorem dL_law_863 : decode cL_law 863 = .ok (.iadd, 1) := by decide +kernel
theorem dL_law_864 : decode cL_law 864 = .ok (.iaload, 1) := by decide +kernel
theorem dL_law_865 : decode cL_law 865 = .ok (.aload_n 0, 1) := by decide +kernel
theorem dL_law_866 : decode cL_law 866 = .ok (.iload 4, 2) := by decide +kernel
theorem dL_law_868 : decode cL_law 868 = .ok (.iconst 3, 1) := by decide +kernel
theorem dL_law_869 : decode cL_law 869 = .ok (.iadd, 1) := by decide +kernel
theorem dL_law_870 : decode cL_law 870 = .ok (.iaload, 1) := by decide +kernel
theorem dL_law_871 : decode cL_law 871 = .ok (.aload_n 0, 1) := by decide +kernel
theorem dL_law_872 : decode cL_law 872 = .ok (.iload 4, 2) := by decide +kernel
theorem dL_law_874 : decode cL_law 874 = .ok (.iconst 4, 1) := by decide +kernel
theorem dL_law_875 : decode cL_law 875 = .ok (.iadd, 1) := by decide +kernel
theorem dL_law_876 : decode cL_law 876 = .ok (.iaload, 1) := by decide +kernel
theorem dL_law_877 : decode cL_law 877 = .ok (.invokevirtual 109, 3) := by decide +kernel
theorem dL_law_880 : decode cL_law 880 = .ok (.if_icmp .eq 511, 3) := by decide +kernel
theorem dL_law_883 : decode cL_law 883 = .ok (.iconst 0, 1) := by decide +kernel
theorem dL_law_884 : decode cL_law 884 = .ok (.ireturn, 1) := by decide +kernel
theorem dL_law_885 : decode cL_law 885 = .ok (.aload_n 1, 1) := by decide +kernel
theorem dL_law_886 : decode cL_law 886 = .ok (.aload_n 0, 1) := by decide +kernel
theorem dL_law_887 : decode cL_law 887 = .ok (.iload 4, 2) := by decide +kernel
theorem dL_law_889 : decode cL_law 889 = .ok (.iconst 1, 1) := by decide +kernel
theorem dL_law_890 : decode cL_law 890 = .ok (.iadd, 1) := by decide +kernel
theorem dL_law_891 : decode cL_law 891 = .ok (.iaload, 1) := by decide +kernel
theorem dL_law_892 : decode cL_law 892 = .ok (.aload_n 0, 1) := by decide +kernel
theorem dL_law_893 : decode cL_law 893 = .ok (.iload 4, 2) := by decide +kernel
theorem dL_law_895 : decode cL_law 895 = .ok (.iconst 2, 1) := by decide +kernel
theorem dL_law_896 : decode cL_law 896 = .ok (.iadd, 1) := by decide +kernel
theorem dL_law_897 : decode cL_law 897 = .ok (.iaload, 1) := by decide +kernel
theorem dL_law_898 : decode cL_law 898 = .ok (.invokevirtual 110, 3) := by decide +kernel
theorem dL_law_901 : decode cL_law 901 = .ok (.aload_n 2, 1) := by decide +kernel
theorem dL_law_902 : decode cL_law 902 = .ok (.aload_n 0, 1) := by decide +kernel
theorem dL_law_903 : decode cL_law 903 = .ok (.iload 4, 2) := by decide +kernel
theorem dL_law_905 : decode cL_law 905 = .ok (.iconst 1, 1) := by decide +kernel
theorem dL_law_906 : decode cL_law 906 = .ok (.iadd, 1) := by decide +kernel
theorem dL_law_907 : decode cL_law 907 = .ok (.iaload, 1) := by decide +kernel
theorem dL_law_908 : decode cL_law 908 = .ok (.aload_n 0, 1) := by decide +kernel
theorem dL_law_909 : decode cL_law 909 = .ok (.iload 4, 2) := by decide +kernel
theorem dL_law_911 : decode cL_law 911 = .ok (.iconst 2, 1) := by decide +kernel
theorem dL_law_912 : decode cL_law 912 = .ok (.iadd, 1) := by decide +kernel
theorem dL_law_913 : decode cL_law 913 = .ok (.iaload, 1) := by decide +kernel
theorem dL_law_914 : decode cL_law 914 = .ok (.invokevirtual 113, 3) := by decide +kernel
theorem dL_law_917 : decode cL_law 917 = .ok (.if_icmp .eq 474, 3) := by decide +kernel
theorem dL_law_920 : decode cL_law 920 = .ok (.iconst 0, 1) := by decide +kernel
theorem dL_law_921 : decode cL_law 921 = .ok (.ireturn, 1) := by decide +kernel
theorem dL_law_922 : decode cL_law 922 = .ok (.aload_n 1, 1) := by decide +kernel
theorem dL_law_923 : decode cL_law 923 = .ok (.aload_n 0, 1) := by decide +kernel
theorem dL_law_924 : decode cL_law 924 = .ok (.iload 4, 2) := by decide +kernel
theorem dL_law_926 : decode cL_law 926 = .ok (.iconst 1, 1) := by decide +kernel
theorem dL_law_927 : decode cL_law 927 = .ok (.iadd, 1) := by decide +kernel
theorem dL_law_928 : decode cL_law 928 = .ok (.iaload, 1) := by decide +kernel
theorem dL_law_929 : decode cL_law 929 = .ok (.invokevirtual 114, 3) := by decide +kernel
theorem dL_law_932 : decode cL_law 932 = .ok (.aload_n 2, 1) := by decide +kernel
theorem dL_law_933 : decode cL_law 933 = .ok (.aload_n 0, 1) := by decide +kernel
theorem dL_law_934 : decode cL_law 934 = .ok (.iload 4, 2) := by decide +kernel
theorem dL_law_936 : decode cL_law 936 = .ok (.iconst 1, 1) := by decide +kernel
theorem dL_law_937 : decode cL_law 937 = .ok (.iadd, 1) := by decide +kernel
theorem dL_law_938 : decode cL_law 938 = .ok (.iaload, 1) := by decide +kernel
theorem dL_law_939 : decode cL_law 939 = .ok (.invokevirtual 117, 3) := by decide +kernel
theorem dL_law_942 : decode cL_law 942 = .ok (.if_icmp .eq 449, 3) := by decide +kernel
theorem dL_law_945 : decode cL_law 945 = .ok (.iconst 0, 1) := by decide +kernel
theorem dL_law_946 : decode cL_law 946 = .ok (.ireturn, 1) := by decide +kernel
theorem dL_law_947 : decode cL_law 947 = .ok (.aload_n 1, 1) := by decide +kernel
theorem dL_law_948 : decode cL_law 948 = .ok (.aload_n 0, 1) := by decide +kernel
theorem dL_law_949 : decode cL_law 949 = .ok (.iload 4, 2) := by decide +kernel
theorem dL_law_951 : decode cL_law 951 = .ok (.iconst 1, 1) := by decide +kernel
theorem dL_law_952 : decode cL_law 952 = .ok (.iadd, 1) := by decide +kernel
theorem dL_law_953 : decode cL_law 953 = .ok (.iaload, 1) := by decide +kernel
theorem dL_law_954 : decode cL_law 954 = .ok (.aload_n 0, 1) := by decide +kernel
theorem dL_law_955 : decode cL_law 955 = .ok (.iload 4, 2) := by decide +kernel
theorem dL_law_957 : decode cL_law 957 = .ok (.iconst 2, 1) := by decide +kernel
theorem dL_law_958 : decode cL_law 958 = .ok (.iadd, 1) := by decide +kernel
theorem dL_law_959 : decode cL_law 959 = .ok (.iaload, 1) := by decide +kernel
theorem dL_law_960 : decode cL_law 960 = .ok (.aload_n 0, 1) := by decide +kernel
theorem dL_law_961 : decode cL_law 961 = .ok (.iload 4, 2) := by decide +kernel
theorem dL_law_963 : decode cL_law 963 = .ok (.iconst 3, 1) := by decide +kernel
theorem dL_law_964 : decode cL_law 964 = .ok (.iadd, 1) := by decide +kernel
theorem dL_law_965 : decode cL_law 965 = .ok (.iaload, 1) := by decide +kernel
theorem dL_law_966 : decode cL_law 966 = .ok (.invokevirtual 118, 3) := by decide +kernel
theorem dL_law_969 : decode cL_law 969 = .ok (.aload_n 2, 1) := by decide +kernel
theorem dL_law_970 : decode cL_law 970 = .ok (.aload_n 0, 1) := by decide +kernel
theorem dL_law_971 : decode cL_law 971 = .ok (.iload 4, 2) := by decide +kernel
theorem dL_law_973 : decode cL_law 973 = .ok (.iconst 1, 1) := by decide +kernel
theorem dL_law_974 : decode cL_law 974 = .ok (.iadd, 1) := by decide +kernel
theorem dL_law_975 : decode cL_law 975 = .ok (.iaload, 1) := by decide +kernel
theorem dL_law_976 : decode cL_law 976 = .ok (.aload_n 0, 1) := by decide +kernel
theorem dL_law_977 : decode cL_law 977 = .ok (.iload 4, 2) := by decide +kernel
theorem dL_law_979 : decode cL_law 979 = .ok (.iconst 2, 1) := by decide +kernel
theorem dL_law_980 : decode cL_law 980 = .ok (.iadd, 1) := by decide +kernel
theorem dL_law_981 : decode cL_law 981 = .ok (.iaload, 1) := by decide +kernel
theorem dL_law_982 : decode cL_law 982 = .ok (.aload_n 0, 1) := by decide +kernel
theorem dL_law_983 : decode cL_law 983 = .ok (.iload 4, 2) := by decide +kernel
theorem dL_law_985 : decode cL_law 985 = .ok (.iconst 3, 1) := by decide +kernel
theorem dL_law_986 : decode cL_law 986 = .ok (.iadd, 1) := by decide +kernel
theorem dL_law_987 : decode cL_law 987 = .ok (.iaload, 1) := by decide +kernel
theorem dL_law_988 : decode cL_law 988 = .ok (.invokevirtual 121, 3) := by decide +kernel
theorem dL_law_991 : decode cL_law 991 = .ok (.if_icmp .eq 400, 3) := by decide +kernel
theorem dL_law_994 : decode cL_law 994 = .ok (.iconst 0, 1) := by decide +kernel
theorem dL_law_995 : decode cL_law 995 = .ok (.ireturn, 1) := by decide +kernel
theorem dL_law_996 : decode cL_law 996 = .ok (.aload_n 1, 1) := by decide +kernel
theorem dL_law_997 : decode cL_law 997 = .ok (.aload_n 0, 1) := by decide +kernel
theorem dL_law_998 : decode cL_law 998 = .ok (.iload 4, 2) := by decide +kernel
theorem dL_law_1000 : decode cL_law 1000 = .ok (.iconst 1, 1) := by decide +kernel
theorem dL_law_1001 : decode cL_law 1001 = .ok (.iadd, 1) := by decide +kernel
theorem dL_law_1002 : decode cL_law 1002 = .ok (.iaload, 1) := by decide +kernel
theorem dL_law_1003 : decode cL_law 1003 = .ok (.invokevirtual 122, 3) := by decide +kernel
theorem dL_law_1006 : decode cL_law 1006 = .ok (.aload_n 2, 1) := by decide +kernel
theorem dL_law_1007 : decode cL_law 1007 = .ok (.aload_n 0, 1) := by decide +kernel
theorem dL_law_1008 : decode cL_law 1008 = .ok (.iload 4, 2) := by decide +kernel
theorem dL_law_1010 : decode cL_law 1010 = .ok (.iconst 1, 1) := by decide +kernel
theorem dL_law_1011 : decode cL_law 1011 = .ok (.iadd, 1) := by decide +kernel
theorem dL_law_1012 : decode cL_law 1012 = .ok (.iaload, 1) := by decide +kernel
theorem dL_law_1013 : decode cL_law 1013 = .ok (.invokevirtual 125, 3) := by decide +kernel
theorem dL_law_1016 : decode cL_law 1016 = .ok (.if_icmp .eq 375, 3) := by decide +kernel
theorem dL_law_1019 : decode cL_law 1019 = .ok (.iconst 0, 1) := by decide +kernel
theorem dL_law_1020 : decode cL_law 1020 = .ok (.ireturn, 1) := by decide +kernel
theorem dL_law_1021 : decode cL_law 1021 = .ok (.aload_n 1, 1) := by decide +kernel
theorem dL_law_1022 : decode cL_law 1022 = .ok (.aload_n 0, 1) := by decide +kernel
theorem dL_law_1023 : decode cL_law 1023 = .ok (.iload 4, 2) := by decide +kernel
theorem dL_law_1025 : decode cL_law 1025 = .ok (.iconst 1, 1) := by decide +kernel
theorem dL_law_1026 : decode cL_law 1026 = .ok (.iadd, 1) := by decide +kernel
theorem dL_law_1027 : decode cL_law 1027 = .ok (.iaload, 1) := by decide +kernel
theorem dL_law_1028 : decode cL_law 1028 = .ok (.invokevirtual 126, 3) := by decide +kernel
theorem dL_law_1031 : decode cL_law 1031 = .ok (.aload_n 2, 1) := by decide +kernel
theorem dL_law_1032 : decode cL_law 1032 = .ok (.aload_n 0, 1) := by decide +kernel
theorem dL_law_1033 : decode cL_law 1033 = .ok (.iload 4, 2) := by decide +kernel
theorem dL_law_1035 : decode cL_law 1035 = .ok (.iconst 1, 1) := by decide +kernel
theorem dL_law_1036 : decode cL_law 1036 = .ok (.iadd, 1) := by decide +kernel
theorem dL_law_1037 : decode cL_law 1037 = .ok (.iaload, 1) := by decide +kernel
theorem dL_law_1038 : decode cL_law 1038 = .ok (.invokevirtual 129, 3) := by decide +kernel
theorem dL_law_1041 : decode cL_law 1041 = .ok (.if_icmp .eq 350, 3) := by decide +kernel
theorem dL_law_1044 : decode cL_law 1044 = .ok (.iconst 0, 1) := by decide +kernel
theorem dL_law_1045 : decode cL_law 1045 = .ok (.ireturn, 1) := by decide +kernel
theorem dL_law_1046 : decode cL_law 1046 = .ok (.aload_n 1, 1) := by decide +kernel
theorem dL_law_1047 : decode cL_law 1047 = .ok (.aload_n 0, 1) := by decide +kernel
theorem dL_law_1048 : decode cL_law 1048 = .ok (.iload 4, 2) := by decide +kernel
theorem dL_law_1050 : decode cL_law 1050 = .ok (.iconst 1, 1) := by decide +kernel
theorem dL_law_1051 : decode cL_law 1051 = .ok (.iadd, 1) := by decide +kernel
theorem dL_law_1052 : decode cL_law 1052 = .ok (.iaload, 1) := by decide +kernel
theorem dL_law_1053 : decode cL_law 1053 = .ok (.aload_n 0, 1) := by decide +kernel
theorem dL_law_1054 : decode cL_law 1054 = .ok (.iload 4, 2) := by decide +kernel
theorem dL_law_1056 : decode cL_law 1056 = .ok (.iconst 2, 1) := by decide +kernel
theorem dL_law_1057 : decode cL_law 1057 = .ok (.iadd, 1) := by decide +kernel
theorem dL_law_1058 : decode cL_law 1058 = .ok (.iaload, 1) := by decide +kernel
theorem dL_law_1059 : decode cL_law 1059 = .ok (.invokevirtual 130, 3) := by decide +kernel
theorem dL_law_1062 : decode cL_law 1062 = .ok (.aload_n 2, 1) := by decide +kernel
theorem dL_law_1063 : decode cL_law 1063 = .ok (.aload_n 0, 1) := by decide +kernel
theorem dL_law_1064 : decode cL_law 1064 = .ok (.iload 4, 2) := by decide +kernel
theorem dL_law_1066 : decode cL_law 1066 = .ok (.iconst 1, 1) := by decide +kernel
theorem dL_law_1067 : decode cL_law 1067 = .ok (.iadd, 1) := by decide +kernel
theorem dL_law_1068 : decode cL_law 1068 = .ok (.iaload, 1) := by decide +kernel
theorem dL_law_1069 : decode cL_law 1069 = .ok (.aload_n 0, 1) := by decide +kernel
theorem dL_law_1070 : decode cL_law 1070 = .ok (.iload 4, 2) := by decide +kernel
theorem dL_law_1072 : decode cL_law 1072 = .ok (.iconst 2, 1) := by decide +kernel
theorem dL_law_1073 : decode cL_law 1073 = .ok (.iadd, 1) := by decide +kernel
theorem dL_law_1074 : decode cL_law 1074 = .ok (.iaload, 1) := by decide +kernel
theorem dL_law_1075 : decode cL_law 1075 = .ok (.invokevirtual 133, 3) := by decide +kernel
theorem dL_law_1078 : decode cL_law 1078 = .ok (.if_icmp .eq 313, 3) := by decide +kernel
theorem dL_law_1081 : decode cL_law 1081 = .ok (.iconst 0, 1) := by decide +kernel
theorem dL_law_1082 : decode cL_law 1082 = .ok (.ireturn, 1) := by decide +kernel
theorem dL_law_1083 : decode cL_law 1083 = .ok (.aload_n 1, 1) := by decide +kernel
theorem dL_law_1084 : decode cL_law 1084 = .ok (.aload_n 0, 1) := by decide +kernel
theorem dL_law_1085 : decode cL_law 1085 = .ok (.iload 4, 2) := by decide +kernel
theorem dL_law_1087 : decode cL_law 1087 = .ok (.iconst 1, 1) := by decide +kernel
theorem dL_law_1088 : decode cL_law 1088 = .ok (.iadd, 1) := by decide +kernel
theorem dL_law_1089 : decode cL_law 1089 = .ok (.iaload, 1) := by decide +kernel
theorem dL_law_1090 : decode cL_law 1090 = .ok (.aload_n 0, 1) := by decide +kernel
theorem dL_law_1091 : decode cL_law 1091 = .ok (.iload 4, 2) := by decide +kernel
theorem dL_law_1093 : decode cL_law 1093 = .ok (.iconst 2, 1) := by decide +kernel
theorem dL_law_1094 : decode cL_law 1094 = .ok (.iadd, 1) := by decide +kernel
theorem dL_law_1095 : decode cL_law 1095 = .ok (.iaload, 1) := by decide +kernel
theorem dL_law_1096 : decode cL_law 1096 = .ok (.aload_n 0, 1) := by decide +kernel
theorem dL_law_1097 : decode cL_law 1097 = .ok (.iload 4, 2) := by decide +kernel
theorem dL_law_1099 : decode cL_law 1099 = .ok (.iconst 3, 1) := by decide +kernel
theorem dL_law_1100 : decode cL_law 1100 = .ok (.iadd, 1) := by decide +kernel
theorem dL_law_1101 : decode cL_law 1101 = .ok (.iaload, 1) := by decide +kernel
theorem dL_law_1102 : decode cL_law 1102 = .ok (.invokevirtual 134, 3) := by decide +kernel
theorem dL_law_1105 : decode cL_law 1105 = .ok (.aload_n 2, 1) := by decide +kernel
theorem dL_law_1106 : decode cL_law 1106 = .ok (.aload_n 0, 1) := by decide +kernel
theorem dL_law_1107 : decode cL_law 1107 = .ok (.iload 4, 2) := by decide +kernel
theorem dL_law_1109 : decode cL_law 1109 = .ok (.iconst 1, 1) := by decide +kernel
theorem dL_law_1110 : decode cL_law 1110 = .ok (.iadd, 1) := by decide +kernel
theorem dL_law_1111 : decode cL_law 1111 = .ok (.iaload, 1) := by decide +kernel
theorem dL_law_1112 : decode cL_law 1112 = .ok (.aload_n 0, 1) := by decide +kernel
theorem dL_law_1113 : decode cL_law 1113 = .ok (.iload 4, 2) := by decide +kernel
theorem dL_law_1115 : decode cL_law 1115 = .ok (.iconst 2, 1) := by decide +kernel
theorem dL_law_1116 : decode cL_law 1116 = .ok (.iadd, 1) := by decide +kernel
theorem dL_law_1117 : decode cL_law 1117 = .ok (.iaload, 1) := by decide +kernel
theorem dL_law_1118 : decode cL_law 1118 = .ok (.aload_n 0, 1) := by decide +kernel
theorem dL_law_1119 : decode cL_law 1119 = .ok (.iload 4, 2) := by decide +kernel
theorem dL_law_1121 : decode cL_law 1121 = .ok (.iconst 3, 1) := by decide +kernel
theorem dL_law_1122 : decode cL_law 1122 = .ok (.iadd, 1) := by decide +kernel
theorem dL_law_1123 : decode cL_law 1123 = .ok (.iaload, 1) := by decide +kernel
theorem dL_law_1124 : decode cL_law 1124 = .ok (.invokevirtual 137, 3) := by decide +kernel
theorem dL_law_1127 : decode cL_law 1127 = .ok (.if_icmp .eq 264, 3) := by decide +kernel
theorem dL_law_1130 : decode cL_law 1130 = .ok (.iconst 0, 1) := by decide +kernel
theorem dL_law_1131 : decode cL_law 1131 = .ok (.ireturn, 1) := by decide +kernel
theorem dL_law_1132 : decode cL_law 1132 = .ok (.aload_n 1, 1) := by decide +kernel
theorem dL_law_1133 : decode cL_law 1133 = .ok (.aload_n 0, 1) := by decide +kernel
theorem dL_law_1134 : decode cL_law 1134 = .ok (.iload 4, 2) := by decide +kernel
theorem dL_law_1136 : decode cL_law 1136 = .ok (.iconst 1, 1) := by decide +kernel
theorem dL_law_1137 : decode cL_law 1137 = .ok (.iadd, 1) := by decide +kernel
theorem dL_law_1138 : decode cL_law 1138 = .ok (.iaload, 1) := by decide +kernel
theorem dL_law_1139 : decode cL_law 1139 = .ok (.aload_n 0, 1) := by decide +kernel
theorem dL_law_1140 : decode cL_law 1140 = .ok (.iload 4, 2) := by decide +kernel
theorem dL_law_1142 : decode cL_law 1142 = .ok (.iconst 2, 1) := by decide +kernel
theorem dL_law_1143 : decode cL_law 1143 = .ok (.iadd, 1) := by decide +kernel
theorem dL_law_1144 : decode cL_law 1144 = .ok (.iaload, 1) := by decide +kernel
theorem dL_law_1145 : decode cL_law 1145 = .ok (.aload_n 0, 1) := by decide +kernel
theorem dL_law_1146 : decode cL_law 1146 = .ok (.iload 4, 2) := by decide +kernel
theorem dL_law_1148 : decode cL_law 1148 = .ok (.iconst 3, 1) := by decide +kernel
theorem dL_law_1149 : decode cL_law 1149 = .ok (.iadd, 1) := by decide +kernel
theorem dL_law_1150 : decode cL_law 1150 = .ok (.iaload, 1) := by decide +kernel
theorem dL_law_1151 : decode cL_law 1151 = .ok (.invokevirtual 138, 3) := by decide +kernel
theorem dL_law_1154 : decode cL_law 1154 = .ok (.aload_n 2, 1) := by decide +kernel
theorem dL_law_1155 : decode cL_law 1155 = .ok (.aload_n 0, 1) := by decide +kernel
theorem dL_law_1156 : decode cL_law 1156 = .ok (.iload 4, 2) := by decide +kernel
theorem dL_law_1158 : decode cL_law 1158 = .ok (.iconst 1, 1) := by decide +kernel
theorem dL_law_1159 : decode cL_law 1159 = .ok (.iadd, 1) := by decide +kernel
theorem dL_law_1160 : decode cL_law 1160 = .ok (.iaload, 1) := by decide +kernel
theorem dL_law_1161 : decode cL_law 1161 = .ok (.aload_n 0, 1) := by decide +kernel
theorem dL_law_1162 : decode cL_law 1162 = .ok (.iload 4, 2) := by decide +kernel
theorem dL_law_1164 : decode cL_law 1164 = .ok (.iconst 2, 1) := by decide +kernel
theorem dL_law_1165 : decode cL_law 1165 = .ok (.iadd, 1) := by decide +kernel
theorem dL_law_1166 : decode cL_law 1166 = .ok (.iaload, 1) := by decide +kernel
theorem dL_law_1167 : decode cL_law 1167 = .ok (.aload_n 0, 1) := by decide +kernel
theorem dL_law_1168 : decode cL_law 1168 = .ok (.iload 4, 2) := by decide +kernel
theorem dL_law_1170 : decode cL_law 1170 = .ok (.iconst 3, 1) := by decide +kernel
theorem dL_law_1171 : decode cL_law 1171 = .ok (.iadd, 1) := by decide +kernel
theorem dL_law_1172 : decode cL_law 1172 = .ok (.iaload, 1) := by decide +kernel
theorem dL_law_1173 : decode cL_law 1173 = .ok (.invokevirtual 141, 3) := by decide +kernel
theorem dL_law_1176 : decode cL_law 1176 = .ok (.if_icmp .eq 215, 3) := by decide +kernel
theorem dL_law_1179 : decode cL_law 1179 = .ok (.iconst 0, 1) := by decide +kernel
theorem dL_law_1180 : decode cL_law 1180 = .ok (.ireturn, 1) := by decide +kernel
theorem dL_law_1181 : decode cL_law 1181 = .ok (.aload_n 1, 1) := by decide +kernel
theorem dL_law_1182 : decode cL_law 1182 = .ok (.aload_n 0, 1) := by decide +kernel
theorem dL_law_1183 : decode cL_law 1183 = .ok (.iload 4, 2) := by decide +kernel
theorem dL_law_1185 : decode cL_law 1185 = .ok (.iconst 1, 1) := by decide +kernel
theorem dL_law_1186 : decode cL_law 1186 = .ok (.iadd, 1) := by decide +kernel
theorem dL_law_1187 : decode cL_law 1187 = .ok (.iaload, 1) := by decide +kernel
theorem dL_law_1188 : decode cL_law 1188 = .ok (.invokevirtual 142, 3) := by decide +kernel
theorem dL_law_1191 : decode cL_law 1191 = .ok (.aload_n 2, 1) := by decide +kernel
theorem dL_law_1192 : decode cL_law 1192 = .ok (.aload_n 0, 1) := by decide +kernel
theorem dL_law_1193 : decode cL_law 1193 = .ok (.iload 4, 2) := by decide +kernel
theorem dL_law_1195 : decode cL_law 1195 = .ok (.iconst 1, 1) := by decide +kernel
theorem dL_law_1196 : decode cL_law 1196 = .ok (.iadd, 1) := by decide +kernel
theorem dL_law_1197 : decode cL_law 1197 = .ok (.iaload, 1) := by decide +kernel
theorem dL_law_1198 : decode cL_law 1198 = .ok (.invokevirtual 145, 3) := by decide +kernel
theorem dL_law_1201 : decode cL_law 1201 = .ok (.if_icmp .eq 190, 3) := by decide +kernel
theorem dL_law_1204 : decode cL_law 1204 = .ok (.iconst 0, 1) := by decide +kernel
theorem dL_law_1205 : decode cL_law 1205 = .ok (.ireturn, 1) := by decide +kernel
theorem dL_law_1206 : decode cL_law 1206 = .ok (.aload_n 1, 1) := by decide +kernel
theorem dL_law_1207 : decode cL_law 1207 = .ok (.invokevirtual 146, 3) := by decide +kernel
theorem dL_law_1210 : decode cL_law 1210 = .ok (.aload_n 2, 1) := by decide +kernel
theorem dL_law_1211 : decode cL_law 1211 = .ok (.invokevirtual 149, 3) := by decide +kernel
theorem dL_law_1214 : decode cL_law 1214 = .ok (.if_icmp .eq 177, 3) := by decide +kernel
theorem dL_law_1217 : decode cL_law 1217 = .ok (.iconst 0, 1) := by decide +kernel
theorem dL_law_1218 : decode cL_law 1218 = .ok (.ireturn, 1) := by decide +kernel
theorem dL_law_1219 : decode cL_law 1219 = .ok (.aload_n 1, 1) := by decide +kernel
theorem dL_law_1220 : decode cL_law 1220 = .ok (.aload_n 0, 1) := by decide +kernel
theorem dL_law_1221 : decode cL_law 1221 = .ok (.iload 4, 2) := by decide +kernel
theorem dL_law_1223 : decode cL_law 1223 = .ok (.iconst 1, 1) := by decide +kernel
theorem dL_law_1224 : decode cL_law 1224 = .ok (.iadd, 1) := by decide +kernel
theorem dL_law_1225 : decode cL_law 1225 = .ok (.iaload, 1) := by decide +kernel
theorem dL_law_1226 : decode cL_law 1226 = .ok (.invokevirtual 150, 3) := by decide +kernel
theorem dL_law_1229 : decode cL_law 1229 = .ok (.aload_n 2, 1) := by decide +kernel
theorem dL_law_1230 : decode cL_law 1230 = .ok (.aload_n 0, 1) := by decide +kernel
theorem dL_law_1231 : decode cL_law 1231 = .ok (.iload 4, 2) := by decide +kernel
theorem dL_law_1233 : decode cL_law 1233 = .ok (.iconst 1, 1) := by decide +kernel
theorem dL_law_1234 : decode cL_law 1234 = .ok (.iadd, 1) := by decide +kernel
theorem dL_law_1235 : decode cL_law 1235 = .ok (.iaload, 1) := by decide +kernel
theorem dL_law_1236 : decode cL_law 1236 = .ok (.invokevirtual 154, 3) := by decide +kernel
theorem dL_law_1239 : decode cL_law 1239 = .ok (.if_icmp .eq 152, 3) := by decide +kernel
theorem dL_law_1242 : decode cL_law 1242 = .ok (.iconst 0, 1) := by decide +kernel
theorem dL_law_1243 : decode cL_law 1243 = .ok (.ireturn, 1) := by decide +kernel
theorem dL_law_1244 : decode cL_law 1244 = .ok (.aload_n 1, 1) := by decide +kernel
theorem dL_law_1245 : decode cL_law 1245 = .ok (.aload_n 0, 1) := by decide +kernel
theorem dL_law_1246 : decode cL_law 1246 = .ok (.iload 4, 2) := by decide +kernel
theorem dL_law_1248 : decode cL_law 1248 = .ok (.iconst 1, 1) := by decide +kernel
theorem dL_law_1249 : decode cL_law 1249 = .ok (.iadd, 1) := by decide +kernel
theorem dL_law_1250 : decode cL_law 1250 = .ok (.iaload, 1) := by decide +kernel
theorem dL_law_1251 : decode cL_law 1251 = .ok (.invokevirtual 155, 3) := by decide +kernel
theorem dL_law_1254 : decode cL_law 1254 = .ok (.aload_n 2, 1) := by decide +kernel
theorem dL_law_1255 : decode cL_law 1255 = .ok (.aload_n 0, 1) := by decide +kernel
theorem dL_law_1256 : decode cL_law 1256 = .ok (.iload 4, 2) := by decide +kernel
theorem dL_law_1258 : decode cL_law 1258 = .ok (.iconst 1, 1) := by decide +kernel
theorem dL_law_1259 : decode cL_law 1259 = .ok (.iadd, 1) := by decide +kernel
theorem dL_law_1260 : decode cL_law 1260 = .ok (.iaload, 1) := by decide +kernel
theorem dL_law_1261 : decode cL_law 1261 = .ok (.invokevirtual 158, 3) := by decide +kernel
theorem dL_law_1264 : decode cL_law 1264 = .ok (.if_icmp .eq 127, 3) := by decide +kernel
theorem dL_law_1267 : decode cL_law 1267 = .ok (.iconst 0, 1) := by decide +kernel
theorem dL_law_1268 : decode cL_law 1268 = .ok (.ireturn, 1) := by decide +kernel
theorem dL_law_1269 : decode cL_law 1269 = .ok (.aload_n 1, 1) := by decide +kernel
theorem dL_law_1270 : decode cL_law 1270 = .ok (.aload_n 0, 1) := by decide +kernel
theorem dL_law_1271 : decode cL_law 1271 = .ok (.iload 4, 2) := by decide +kernel
theorem dL_law_1273 : decode cL_law 1273 = .ok (.iconst 1, 1) := by decide +kernel
theorem dL_law_1274 : decode cL_law 1274 = .ok (.iadd, 1) := by decide +kernel
theorem dL_law_1275 : decode cL_law 1275 = .ok (.iaload, 1) := by decide +kernel
theorem dL_law_1276 : decode cL_law 1276 = .ok (.ifCond .eq 7, 3) := by decide +kernel
theorem dL_law_1279 : decode cL_law 1279 = .ok (.iconst 1, 1) := by decide +kernel
theorem dL_law_1280 : decode cL_law 1280 = .ok (.goto 4, 3) := by decide +kernel
theorem dL_law_1283 : decode cL_law 1283 = .ok (.iconst 0, 1) := by decide +kernel
theorem dL_law_1284 : decode cL_law 1284 = .ok (.aload_n 0, 1) := by decide +kernel
theorem dL_law_1285 : decode cL_law 1285 = .ok (.iload 4, 2) := by decide +kernel
theorem dL_law_1287 : decode cL_law 1287 = .ok (.iconst 2, 1) := by decide +kernel
theorem dL_law_1288 : decode cL_law 1288 = .ok (.iadd, 1) := by decide +kernel
theorem dL_law_1289 : decode cL_law 1289 = .ok (.iaload, 1) := by decide +kernel
theorem dL_law_1290 : decode cL_law 1290 = .ok (.aload_n 0, 1) := by decide +kernel
theorem dL_law_1291 : decode cL_law 1291 = .ok (.iload 4, 2) := by decide +kernel
theorem dL_law_1293 : decode cL_law 1293 = .ok (.iconst 3, 1) := by decide +kernel
theorem dL_law_1294 : decode cL_law 1294 = .ok (.iadd, 1) := by decide +kernel
theorem dL_law_1295 : decode cL_law 1295 = .ok (.iaload, 1) := by decide +kernel
theorem dL_law_1296 : decode cL_law 1296 = .ok (.aload_n 3, 1) := by decide +kernel
theorem dL_law_1297 : decode cL_law 1297 = .ok (.invokestatic 159, 3) := by decide +kernel
theorem dL_law_1300 : decode cL_law 1300 = .ok (.istore 5, 2) := by decide +kernel
theorem dL_law_1302 : decode cL_law 1302 = .ok (.aload_n 2, 1) := by decide +kernel
theorem dL_law_1303 : decode cL_law 1303 = .ok (.aload_n 0, 1) := by decide +kernel
theorem dL_law_1304 : decode cL_law 1304 = .ok (.iload 4, 2) := by decide +kernel
theorem dL_law_1306 : decode cL_law 1306 = .ok (.iconst 1, 1) := by decide +kernel
theorem dL_law_1307 : decode cL_law 1307 = .ok (.iadd, 1) := by decide +kernel
theorem dL_law_1308 : decode cL_law 1308 = .ok (.iaload, 1) := by decide +kernel
theorem dL_law_1309 : decode cL_law 1309 = .ok (.ifCond .eq 7, 3) := by decide +kernel
theorem dL_law_1312 : decode cL_law 1312 = .ok (.iconst 1, 1) := by decide +kernel
theorem dL_law_1313 : decode cL_law 1313 = .ok (.goto 4, 3) := by decide +kernel
theorem dL_law_1316 : decode cL_law 1316 = .ok (.iconst 0, 1) := by decide +kernel
theorem dL_law_1317 : decode cL_law 1317 = .ok (.aload_n 0, 1) := by decide +kernel
theorem dL_law_1318 : decode cL_law 1318 = .ok (.iload 4, 2) := by decide +kernel
theorem dL_law_1320 : decode cL_law 1320 = .ok (.iconst 2, 1) := by decide +kernel
theorem dL_law_1321 : decode cL_law 1321 = .ok (.iadd, 1) := by decide +kernel
theorem dL_law_1322 : decode cL_law 1322 = .ok (.iaload, 1) := by decide +kernel
theorem dL_law_1323 : decode cL_law 1323 = .ok (.aload_n 0, 1) := by decide +kernel
theorem dL_law_1324 : decode cL_law 1324 = .ok (.iload 4, 2) := by decide +kernel
theorem dL_law_1326 : decode cL_law 1326 = .ok (.iconst 3, 1) := by decide +kernel
theorem dL_law_1327 : decode cL_law 1327 = .ok (.iadd, 1) := by decide +kernel
theorem dL_law_1328 : decode cL_law 1328 = .ok (.iaload, 1) := by decide +kernel
theorem dL_law_1329 : decode cL_law 1329 = .ok (.invokevirtual 164, 3) := by decide +kernel
theorem dL_law_1332 : decode cL_law 1332 = .ok (.istore 6, 2) := by decide +kernel
theorem dL_law_1334 : decode cL_law 1334 = .ok (.aload_n 2, 1) := by decide +kernel
theorem dL_law_1335 : decode cL_law 1335 = .ok (.invokevirtual 165, 3) := by decide +kernel
theorem dL_law_1338 : decode cL_law 1338 = .ok (.iload 5, 2) := by decide +kernel
theorem dL_law_1340 : decode cL_law 1340 = .ok (.if_icmp .eq 5, 3) := by decide +kernel
theorem dL_law_1343 : decode cL_law 1343 = .ok (.iconst 0, 1) := by decide +kernel
theorem dL_law_1344 : decode cL_law 1344 = .ok (.ireturn, 1) := by decide +kernel
theorem dL_law_1345 : decode cL_law 1345 = .ok (.iload 5, 2) := by decide +kernel
theorem dL_law_1347 : decode cL_law 1347 = .ok (.ifCond .ne 15, 3) := by decide +kernel
theorem dL_law_1350 : decode cL_law 1350 = .ok (.aload_n 3, 1) := by decide +kernel
theorem dL_law_1351 : decode cL_law 1351 = .ok (.iconst 0, 1) := by decide +kernel
theorem dL_law_1352 : decode cL_law 1352 = .ok (.laload, 1) := by decide +kernel
theorem dL_law_1353 : decode cL_law 1353 = .ok (.iload 6, 2) := by decide +kernel
theorem dL_law_1355 : decode cL_law 1355 = .ok (.i2l, 1) := by decide +kernel
theorem dL_law_1356 : decode cL_law 1356 = .ok (.lcmp, 1) := by decide +kernel
theorem dL_law_1357 : decode cL_law 1357 = .ok (.ifCond .eq 5, 3) := by decide +kernel
theorem dL_law_1360 : decode cL_law 1360 = .ok (.iconst 0, 1) := by decide +kernel
theorem dL_law_1361 : decode cL_law 1361 = .ok (.ireturn, 1) := by decide +kernel
theorem dL_law_1362 : decode cL_law 1362 = .ok (.goto 29, 3) := by decide +kernel
theorem dL_law_1365 : decode cL_law 1365 = .ok (.aload_n 1, 1) := by decide +kernel
theorem dL_law_1366 : decode cL_law 1366 = .ok (.invokevirtual 168, 3) := by decide +kernel
theorem dL_law_1369 : decode cL_law 1369 = .ok (.aload_n 2, 1) := by decide +kernel
theorem dL_law_1370 : decode cL_law 1370 = .ok (.invokevirtual 171, 3) := by decide +kernel
theorem dL_law_1373 : decode cL_law 1373 = .ok (.if_icmp .eq 18, 3) := by decide +kernel
theorem dL_law_1376 : decode cL_law 1376 = .ok (.iconst 0, 1) := by decide +kernel
theorem dL_law_1377 : decode cL_law 1377 = .ok (.ireturn, 1) := by decide +kernel
theorem dL_law_1378 : decode cL_law 1378 = .ok (.aload_n 1, 1) := by decide +kernel
theorem dL_law_1379 : decode cL_law 1379 = .ok (.invokevirtual 172, 3) := by decide +kernel
theorem dL_law_1382 : decode cL_law 1382 = .ok (.aload_n 2, 1) := by decide +kernel
theorem dL_law_1383 : decode cL_law 1383 = .ok (.invokevirtual 175, 3) := by decide +kernel
theorem dL_law_1386 : decode cL_law 1386 = .ok (.if_icmp .eq 5, 3) := by decide +kernel
theorem dL_law_1389 : decode cL_law 1389 = .ok (.iconst 0, 1) := by decide +kernel
theorem dL_law_1390 : decode cL_law 1390 = .ok (.ireturn, 1) := by decide +kernel
theorem dL_law_1391 : decode cL_law 1391 = .ok (.iinc 4 6, 3) := by decide +kernel
theorem dL_law_1394 : decode cL_law 1394 = .ok (.goto (-1371), 3) := by decide +kernel
theorem dL_law_1397 : decode cL_law 1397 = .ok (.iconst 1, 1) := by decide +kernel
theorem dL_law_1398 : decode cL_law 1398 = .ok (.ireturn, 1) := by decide +kernel
theorem cw_102 : Cond.initialized RX9 ∈ TB := tbv (tt1 (List.mem_of_getElem? (i := 1) (by decide +kernel))) rfl
theorem cw_111 : Cond.initialized RX10 ∈ TB := tbv (tt1 (List.mem_of_getElem? (i := 10) (by decide +kernel))) rfl
theorem cw_483 : Cond.methodLink RL 19 yX9_feed ∈ TB := tbv (tt2 (List.mem_of_getElem? (i := 142) (by decide +kernel))) rfl
theorem cw_484 : Cond.instanceMethod yX9_feed ∈ TB := tbv (tt2 (List.mem_of_getElem? (i := 143) (by decide +kernel))) rfl
theorem cw_485 : Cond.selects RX9 yX9_feed yX9_feed ∈ TB := tbv (tt2 (List.mem_of_getElem? (i := 144) (by decide +kernel))) rfl
theorem cw_486 : Cond.code yX9_feed cX9_feed 6 (some .int) ∈ TB := tbv (tt2 (List.mem_of_getElem? (i := 145) (by decide +kernel))) rfl
theorem cw_491 : Cond.methodLink RL 24 yX9_text ∈ TB := tbv (tt2 (List.mem_of_getElem? (i := 150) (by decide +kernel))) rfl
theorem cw_492 : Cond.instanceMethod yX9_text ∈ TB := tbv (tt2 (List.mem_of_getElem? (i := 151) (by decide +kernel))) rfl
theorem cw_493 : Cond.selects RX9 yX9_text yX9_text ∈ TB := tbv (tt2 (List.mem_of_getElem? (i := 152) (by decide +kernel))) rfl
theorem cw_494 : Cond.code yX9_text cX9_text 2 (some .int) ∈ TB := tbv (tt2 (List.mem_of_getElem? (i := 153) (by decide +kernel))) rfl
theorem cw_715 : Cond.methodLink RL 29 yX9_fault ∈ TB := tbv (tt3 (List.mem_of_getElem? (i := 134) (by decide +kernel))) rfl
theorem cw_716 : Cond.instanceMethod yX9_fault ∈ TB := tbv (tt3 (List.mem_of_getElem? (i := 135) (by decide +kernel))) rfl
theorem cw_717 : Cond.selects RX9 yX9_fault yX9_fault ∈ TB := tbv (tt3 (List.mem_of_getElem? (i := 136) (by decide +kernel))) rfl
theorem cw_718 : Cond.code yX9_fault cX9_fault 1 (some .int) ∈ TB := tbv (tt3 (List.mem_of_getElem? (i := 137) (by decide +kernel))) rfl
theorem cw_719 : Cond.methodLink RL 34 yX9_where ∈ TB := tbv (tt3 (List.mem_of_getElem? (i := 138) (by decide +kernel))) rfl
theorem cw_720 : Cond.instanceMethod yX9_where ∈ TB := tbv (tt3 (List.mem_of_getElem? (i := 139) (by decide +kernel))) rfl
theorem cw_721 : Cond.selects RX9 yX9_where yX9_where ∈ TB := tbv (tt3 (List.mem_of_getElem? (i := 140) (by decide +kernel))) rfl
theorem cw_722 : Cond.code yX9_where cX9_where 1 (some .int) ∈ TB := tbv (tt3 (List.mem_of_getElem? (i := 141) (by decide +kernel))) rfl
theorem cw_723 : Cond.methodLink RL 38 yX9_about ∈ TB := tbv (tt3 (List.mem_of_getElem? (i := 142) (by decide +kernel))) rfl
theorem cw_724 : Cond.instanceMethod yX9_about ∈ TB := tbv (tt3 (List.mem_of_getElem? (i := 143) (by decide +kernel))) rfl
theorem cw_725 : Cond.selects RX9 yX9_about yX9_about ∈ TB := tbv (tt3 (List.mem_of_getElem? (i := 144) (by decide +kernel))) rfl
theorem cw_726 : Cond.code yX9_about cX9_about 2 (some .int) ∈ TB := tbv (tt3 (List.mem_of_getElem? (i := 145) (by decide +kernel))) rfl
theorem cw_738 : Cond.methodLink RL 42 yX9_bench ∈ TB := tbv (tt3 (List.mem_of_getElem? (i := 157) (by decide +kernel))) rfl
theorem cw_739 : Cond.instanceMethod yX9_bench ∈ TB := tbv (tt3 (List.mem_of_getElem? (i := 158) (by decide +kernel))) rfl
theorem cw_740 : Cond.selects RX9 yX9_bench yX9_bench ∈ TB := tbv (tt3 (List.mem_of_getElem? (i := 159) (by decide +kernel))) rfl
theorem cw_741 : Cond.code yX9_bench cX9_bench 3 (some .int) ∈ TB := tbv (tt3 (List.mem_of_getElem? (i := 160) (by decide +kernel))) rfl
theorem cw_751 : Cond.methodLink RL 47 yX9_timeOf ∈ TB := tbv (tt3 (List.mem_of_getElem? (i := 170) (by decide +kernel))) rfl
theorem cw_752 : Cond.instanceMethod yX9_timeOf ∈ TB := tbv (tt3 (List.mem_of_getElem? (i := 171) (by decide +kernel))) rfl
theorem cw_753 : Cond.selects RX9 yX9_timeOf yX9_timeOf ∈ TB := tbv (tt3 (List.mem_of_getElem? (i := 172) (by decide +kernel))) rfl
theorem cw_754 : Cond.code yX9_timeOf cX9_timeOf 3 (some .int) ∈ TB := tbv (tt3 (List.mem_of_getElem? (i := 173) (by decide +kernel))) rfl
theorem cw_760 : Cond.methodLink RL 51 yX9_stream ∈ TB := tbv (tt3 (List.mem_of_getElem? (i := 179) (by decide +kernel))) rfl
theorem cw_761 : Cond.instanceMethod yX9_stream ∈ TB := tbv (tt3 (List.mem_of_getElem? (i := 180) (by decide +kernel))) rfl
theorem cw_762 : Cond.selects RX9 yX9_stream yX9_stream ∈ TB := tbv (tt3 (List.mem_of_getElem? (i := 181) (by decide +kernel))) rfl
theorem cw_763 : Cond.code yX9_stream cX9_stream 3 (some .int) ∈ TB := tbv (tt3 (List.mem_of_getElem? (i := 182) (by decide +kernel))) rfl
theorem cw_764 : Cond.methodLink RL 55 yX9_cardsOf ∈ TB := tbv (tt3 (List.mem_of_getElem? (i := 183) (by decide +kernel))) rfl
theorem cw_765 : Cond.instanceMethod yX9_cardsOf ∈ TB := tbv (tt3 (List.mem_of_getElem? (i := 184) (by decide +kernel))) rfl
theorem cw_766 : Cond.selects RX9 yX9_cardsOf yX9_cardsOf ∈ TB := tbv (tt3 (List.mem_of_getElem? (i := 185) (by decide +kernel))) rfl
theorem cw_767 : Cond.code yX9_cardsOf cX9_cardsOf 5 (some .int) ∈ TB := tbv (tt3 (List.mem_of_getElem? (i := 186) (by decide +kernel))) rfl
theorem cw_772 : Cond.methodLink RL 60 yX9_begin ∈ TB := tbv (tt3 (List.mem_of_getElem? (i := 191) (by decide +kernel))) rfl
theorem cw_773 : Cond.instanceMethod yX9_begin ∈ TB := tbv (tt3 (List.mem_of_getElem? (i := 192) (by decide +kernel))) rfl
theorem cw_774 : Cond.selects RX9 yX9_begin yX9_begin ∈ TB := tbv (tt3 (List.mem_of_getElem? (i := 193) (by decide +kernel))) rfl
theorem cw_775 : Cond.code yX9_begin cX9_begin 2 (some .boolean) ∈ TB := tbv (tt3 (List.mem_of_getElem? (i := 194) (by decide +kernel))) rfl
theorem cw_776 : Cond.methodLink RL 65 yX9_run ∈ TB := tbv (tt3 (List.mem_of_getElem? (i := 195) (by decide +kernel))) rfl
theorem cw_777 : Cond.instanceMethod yX9_run ∈ TB := tbv (tt3 (List.mem_of_getElem? (i := 196) (by decide +kernel))) rfl
theorem cw_778 : Cond.selects RX9 yX9_run yX9_run ∈ TB := tbv (tt3 (List.mem_of_getElem? (i := 197) (by decide +kernel))) rfl
theorem cw_779 : Cond.code yX9_run cX9_run 4 (some .int) ∈ TB := tbv (tt3 (List.mem_of_getElem? (i := 198) (by decide +kernel))) rfl
theorem cw_829 : Cond.methodLink RL 69 yX9_does ∈ TB := tbv (tt4 (List.mem_of_getElem? (i := 8) (by decide +kernel))) rfl
theorem cw_830 : Cond.instanceMethod yX9_does ∈ TB := tbv (tt4 (List.mem_of_getElem? (i := 9) (by decide +kernel))) rfl
theorem cw_831 : Cond.selects RX9 yX9_does yX9_does ∈ TB := tbv (tt4 (List.mem_of_getElem? (i := 10) (by decide +kernel))) rfl
theorem cw_832 : Cond.code yX9_does cX9_does 3 (some .int) ∈ TB := tbv (tt4 (List.mem_of_getElem? (i := 11) (by decide +kernel))) rfl
theorem cw_837 : Cond.methodLink RL 73 yX9_counts ∈ TB := tbv (tt4 (List.mem_of_getElem? (i := 16) (by decide +kernel))) rfl
theorem cw_838 : Cond.instanceMethod yX9_counts ∈ TB := tbv (tt4 (List.mem_of_getElem? (i := 17) (by decide +kernel))) rfl
theorem cw_839 : Cond.selects RX9 yX9_counts yX9_counts ∈ TB := tbv (tt4 (List.mem_of_getElem? (i := 18) (by decide +kernel))) rfl
theorem cw_840 : Cond.code yX9_counts cX9_counts 3 (some .int) ∈ TB := tbv (tt4 (List.mem_of_getElem? (i := 19) (by decide +kernel))) rfl
theorem cw_845 : Cond.methodLink RL 77 yX9_orders ∈ TB := tbv (tt4 (List.mem_of_getElem? (i := 24) (by decide +kernel))) rfl
theorem cw_846 : Cond.instanceMethod yX9_orders ∈ TB := tbv (tt4 (List.mem_of_getElem? (i := 25) (by decide +kernel))) rfl
theorem cw_847 : Cond.selects RX9 yX9_orders yX9_orders ∈ TB := tbv (tt4 (List.mem_of_getElem? (i := 26) (by decide +kernel))) rfl
theorem cw_848 : Cond.code yX9_orders cX9_orders 3 (some .int) ∈ TB := tbv (tt4 (List.mem_of_getElem? (i := 27) (by decide +kernel))) rfl
theorem cw_849 : Cond.methodLink RL 81 yX9_starved ∈ TB := tbv (tt4 (List.mem_of_getElem? (i := 28) (by decide +kernel))) rfl
theorem cw_850 : Cond.instanceMethod yX9_starved ∈ TB := tbv (tt4 (List.mem_of_getElem? (i := 29) (by decide +kernel))) rfl
theorem cw_851 : Cond.selects RX9 yX9_starved yX9_starved ∈ TB := tbv (tt4 (List.mem_of_getElem? (i := 30) (by decide +kernel))) rfl
theorem cw_852 : Cond.code yX9_starved cX9_starved 2 (some .int) ∈ TB := tbv (tt4 (List.mem_of_getElem? (i := 31) (by decide +kernel))) rfl
theorem cw_853 : Cond.methodLink RL 85 yX9_peak ∈ TB := tbv (tt4 (List.mem_of_getElem? (i := 32) (by decide +kernel))) rfl
theorem cw_854 : Cond.instanceMethod yX9_peak ∈ TB := tbv (tt4 (List.mem_of_getElem? (i := 33) (by decide +kernel))) rfl
theorem cw_855 : Cond.selects RX9 yX9_peak yX9_peak ∈ TB := tbv (tt4 (List.mem_of_getElem? (i := 34) (by decide +kernel))) rfl
theorem cw_856 : Cond.code yX9_peak cX9_peak 2 (some .int) ∈ TB := tbv (tt4 (List.mem_of_getElem? (i := 35) (by decide +kernel))) rfl
theorem cw_857 : Cond.methodLink RL 89 yX9_firstOf ∈ TB := tbv (tt4 (List.mem_of_getElem? (i := 36) (by decide +kernel))) rfl
theorem cw_858 : Cond.instanceMethod yX9_firstOf ∈ TB := tbv (tt4 (List.mem_of_getElem? (i := 37) (by decide +kernel))) rfl
theorem cw_859 : Cond.selects RX9 yX9_firstOf yX9_firstOf ∈ TB := tbv (tt4 (List.mem_of_getElem? (i := 38) (by decide +kernel))) rfl
theorem cw_860 : Cond.code yX9_firstOf cX9_firstOf 2 (some .int) ∈ TB := tbv (tt4 (List.mem_of_getElem? (i := 39) (by decide +kernel))) rfl
theorem cw_861 : Cond.methodLink RL 93 yX9_rate ∈ TB := tbv (tt4 (List.mem_of_getElem? (i := 40) (by decide +kernel))) rfl
theorem cw_862 : Cond.instanceMethod yX9_rate ∈ TB := tbv (tt4 (List.mem_of_getElem? (i := 41) (by decide +kernel))) rfl
theorem cw_863 : Cond.selects RX9 yX9_rate yX9_rate ∈ TB := tbv (tt4 (List.mem_of_getElem? (i := 42) (by decide +kernel))) rfl
theorem cw_864 : Cond.code yX9_rate cX9_rate 4 (some .int) ∈ TB := tbv (tt4 (List.mem_of_getElem? (i := 43) (by decide +kernel))) rfl
theorem cw_869 : Cond.methodLink RL 97 yX9_busiest ∈ TB := tbv (tt4 (List.mem_of_getElem? (i := 48) (by decide +kernel))) rfl
theorem cw_870 : Cond.instanceMethod yX9_busiest ∈ TB := tbv (tt4 (List.mem_of_getElem? (i := 49) (by decide +kernel))) rfl
theorem cw_871 : Cond.selects RX9 yX9_busiest yX9_busiest ∈ TB := tbv (tt4 (List.mem_of_getElem? (i := 50) (by decide +kernel))) rfl
theorem cw_872 : Cond.code yX9_busiest cX9_busiest 1 (some .int) ∈ TB := tbv (tt4 (List.mem_of_getElem? (i := 51) (by decide +kernel))) rfl
theorem cw_878 : Cond.methodLink RL 101 yX9_yields ∈ TB := tbv (tt4 (List.mem_of_getElem? (i := 57) (by decide +kernel))) rfl
theorem cw_879 : Cond.instanceMethod yX9_yields ∈ TB := tbv (tt4 (List.mem_of_getElem? (i := 58) (by decide +kernel))) rfl
theorem cw_880 : Cond.selects RX9 yX9_yields yX9_yields ∈ TB := tbv (tt4 (List.mem_of_getElem? (i := 59) (by decide +kernel))) rfl
theorem cw_881 : Cond.code yX9_yields cX9_yields 2 (some .int) ∈ TB := tbv (tt4 (List.mem_of_getElem? (i := 60) (by decide +kernel))) rfl
theorem cw_908 : Cond.methodLink RL 105 yX9_would ∈ TB := tbv (tt4 (List.mem_of_getElem? (i := 87) (by decide +kernel))) rfl
theorem cw_909 : Cond.instanceMethod yX9_would ∈ TB := tbv (tt4 (List.mem_of_getElem? (i := 88) (by decide +kernel))) rfl
theorem cw_910 : Cond.selects RX9 yX9_would yX9_would ∈ TB := tbv (tt4 (List.mem_of_getElem? (i := 89) (by decide +kernel))) rfl
theorem cw_911 : Cond.code yX9_would cX9_would 5 (some .int) ∈ TB := tbv (tt4 (List.mem_of_getElem? (i := 90) (by decide +kernel))) rfl
theorem cw_916 : Cond.methodLink RL 110 yX9_fewest ∈ TB := tbv (tt4 (List.mem_of_getElem? (i := 95) (by decide +kernel))) rfl
theorem cw_917 : Cond.instanceMethod yX9_fewest ∈ TB := tbv (tt4 (List.mem_of_getElem? (i := 96) (by decide +kernel))) rfl
theorem cw_918 : Cond.selects RX9 yX9_fewest yX9_fewest ∈ TB := tbv (tt4 (List.mem_of_getElem? (i := 97) (by decide +kernel))) rfl
theorem cw_919 : Cond.code yX9_fewest cX9_fewest 3 (some .int) ∈ TB := tbv (tt4 (List.mem_of_getElem? (i := 98) (by decide +kernel))) rfl
theorem cw_925 : Cond.methodLink RL 114 yX9_thin ∈ TB := tbv (tt4 (List.mem_of_getElem? (i := 104) (by decide +kernel))) rfl
theorem cw_926 : Cond.instanceMethod yX9_thin ∈ TB := tbv (tt4 (List.mem_of_getElem? (i := 105) (by decide +kernel))) rfl
theorem cw_927 : Cond.selects RX9 yX9_thin yX9_thin ∈ TB := tbv (tt4 (List.mem_of_getElem? (i := 106) (by decide +kernel))) rfl
theorem cw_928 : Cond.code yX9_thin cX9_thin 2 (some .int) ∈ TB := tbv (tt4 (List.mem_of_getElem? (i := 107) (by decide +kernel))) rfl
theorem cw_934 : Cond.methodLink RL 118 yX9_thinAt ∈ TB := tbv (tt4 (List.mem_of_getElem? (i := 113) (by decide +kernel))) rfl
theorem cw_935 : Cond.instanceMethod yX9_thinAt ∈ TB := tbv (tt4 (List.mem_of_getElem? (i := 114) (by decide +kernel))) rfl
theorem cw_936 : Cond.selects RX9 yX9_thinAt yX9_thinAt ∈ TB := tbv (tt4 (List.mem_of_getElem? (i := 115) (by decide +kernel))) rfl
theorem cw_937 : Cond.code yX9_thinAt cX9_thinAt 4 (some .int) ∈ TB := tbv (tt4 (List.mem_of_getElem? (i := 116) (by decide +kernel))) rfl
theorem cw_938 : Cond.methodLink RL 122 yX9_helps ∈ TB := tbv (tt4 (List.mem_of_getElem? (i := 117) (by decide +kernel))) rfl
theorem cw_939 : Cond.instanceMethod yX9_helps ∈ TB := tbv (tt4 (List.mem_of_getElem? (i := 118) (by decide +kernel))) rfl
theorem cw_940 : Cond.selects RX9 yX9_helps yX9_helps ∈ TB := tbv (tt4 (List.mem_of_getElem? (i := 119) (by decide +kernel))) rfl
theorem cw_941 : Cond.code yX9_helps cX9_helps 2 (some .int) ∈ TB := tbv (tt4 (List.mem_of_getElem? (i := 120) (by decide +kernel))) rfl
theorem cw_947 : Cond.methodLink RL 126 yX9_holds ∈ TB := tbv (tt4 (List.mem_of_getElem? (i := 126) (by decide +kernel))) rfl
theorem cw_948 : Cond.instanceMethod yX9_holds ∈ TB := tbv (tt4 (List.mem_of_getElem? (i := 127) (by decide +kernel))) rfl
theorem cw_949 : Cond.selects RX9 yX9_holds yX9_holds ∈ TB := tbv (tt4 (List.mem_of_getElem? (i := 128) (by decide +kernel))) rfl
theorem cw_950 : Cond.code yX9_holds cX9_holds 2 (some .int) ∈ TB := tbv (tt4 (List.mem_of_getElem? (i := 129) (by decide +kernel))) rfl
theorem cw_955 : Cond.methodLink RL 130 yX9_comesAgain ∈ TB := tbv (tt4 (List.mem_of_getElem? (i := 134) (by decide +kernel))) rfl
theorem cw_956 : Cond.instanceMethod yX9_comesAgain ∈ TB := tbv (tt4 (List.mem_of_getElem? (i := 135) (by decide +kernel))) rfl
theorem cw_957 : Cond.selects RX9 yX9_comesAgain yX9_comesAgain ∈ TB := tbv (tt4 (List.mem_of_getElem? (i := 136) (by decide +kernel))) rfl
theorem cw_958 : Cond.code yX9_comesAgain cX9_comesAgain 4 (some .int) ∈ TB := tbv (tt4 (List.mem_of_getElem? (i := 137) (by decide +kernel))) rfl
theorem cw_1012 : Cond.methodLink RL 134 yX9_cards ∈ TB := tbv (tt4 (List.mem_of_getElem? (i := 191) (by decide +kernel))) rfl
theorem cw_1013 : Cond.instanceMethod yX9_cards ∈ TB := tbv (tt4 (List.mem_of_getElem? (i := 192) (by decide +kernel))) rfl
theorem cw_1014 : Cond.selects RX9 yX9_cards yX9_cards ∈ TB := tbv (tt4 (List.mem_of_getElem? (i := 193) (by decide +kernel))) rfl
theorem cw_1015 : Cond.code yX9_cards cX9_cards 4 (some .int) ∈ TB := tbv (tt4 (List.mem_of_getElem? (i := 194) (by decide +kernel))) rfl
theorem cw_1025 : Cond.methodLink RL 138 yX9_time ∈ TB := tbv (tt4 (List.mem_of_getElem? (i := 204) (by decide +kernel))) rfl
theorem cw_1026 : Cond.instanceMethod yX9_time ∈ TB := tbv (tt4 (List.mem_of_getElem? (i := 205) (by decide +kernel))) rfl
theorem cw_1027 : Cond.selects RX9 yX9_time yX9_time ∈ TB := tbv (tt4 (List.mem_of_getElem? (i := 206) (by decide +kernel))) rfl
theorem cw_1028 : Cond.code yX9_time cX9_time 4 (some .int) ∈ TB := tbv (tt4 (List.mem_of_getElem? (i := 207) (by decide +kernel))) rfl
theorem cw_1029 : Cond.methodLink RL 142 yX9_rule ∈ TB := tbv (tt4 (List.mem_of_getElem? (i := 208) (by decide +kernel))) rfl
theorem cw_1030 : Cond.instanceMethod yX9_rule ∈ TB := tbv (tt4 (List.mem_of_getElem? (i := 209) (by decide +kernel))) rfl
theorem cw_1031 : Cond.selects RX9 yX9_rule yX9_rule ∈ TB := tbv (tt4 (List.mem_of_getElem? (i := 210) (by decide +kernel))) rfl
theorem cw_1032 : Cond.code yX9_rule cX9_rule 2 (some .int) ∈ TB := tbv (tt4 (List.mem_of_getElem? (i := 211) (by decide +kernel))) rfl
theorem cw_1033 : Cond.methodLink RL 146 yX9_undo ∈ TB := tbv (tt4 (List.mem_of_getElem? (i := 212) (by decide +kernel))) rfl
theorem cw_1034 : Cond.instanceMethod yX9_undo ∈ TB := tbv (tt4 (List.mem_of_getElem? (i := 213) (by decide +kernel))) rfl
theorem cw_1035 : Cond.selects RX9 yX9_undo yX9_undo ∈ TB := tbv (tt4 (List.mem_of_getElem? (i := 214) (by decide +kernel))) rfl
theorem cw_1036 : Cond.code yX9_undo cX9_undo 1 (some .int) ∈ TB := tbv (tt4 (List.mem_of_getElem? (i := 215) (by decide +kernel))) rfl
theorem cw_1041 : Cond.methodLink RL 150 yX9_keep ∈ TB := tbv (tt4 (List.mem_of_getElem? (i := 220) (by decide +kernel))) rfl
theorem cw_1042 : Cond.instanceMethod yX9_keep ∈ TB := tbv (tt4 (List.mem_of_getElem? (i := 221) (by decide +kernel))) rfl
theorem cw_1043 : Cond.selects RX9 yX9_keep yX9_keep ∈ TB := tbv (tt4 (List.mem_of_getElem? (i := 222) (by decide +kernel))) rfl
theorem cw_1044 : Cond.code yX9_keep cX9_keep 3 (some .boolean) ∈ TB := tbv (tt4 (List.mem_of_getElem? (i := 223) (by decide +kernel))) rfl
theorem cw_1049 : Cond.methodLink RL 155 yX9_back ∈ TB := tbv (tt4 (List.mem_of_getElem? (i := 228) (by decide +kernel))) rfl
theorem cw_1050 : Cond.instanceMethod yX9_back ∈ TB := tbv (tt4 (List.mem_of_getElem? (i := 229) (by decide +kernel))) rfl
theorem cw_1051 : Cond.selects RX9 yX9_back yX9_back ∈ TB := tbv (tt4 (List.mem_of_getElem? (i := 230) (by decide +kernel))) rfl
theorem cw_1052 : Cond.code yX9_back cX9_back 3 (some .boolean) ∈ TB := tbv (tt4 (List.mem_of_getElem? (i := 231) (by decide +kernel))) rfl
theorem cw_1053 : Cond.methodLink RL 168 yX9_bytes ∈ TB := tbv (tt4 (List.mem_of_getElem? (i := 232) (by decide +kernel))) rfl
theorem cw_1054 : Cond.instanceMethod yX9_bytes ∈ TB := tbv (tt4 (List.mem_of_getElem? (i := 233) (by decide +kernel))) rfl
theorem cw_1055 : Cond.selects RX9 yX9_bytes yX9_bytes ∈ TB := tbv (tt4 (List.mem_of_getElem? (i := 234) (by decide +kernel))) rfl
theorem cw_1056 : Cond.code yX9_bytes cX9_bytes 1 (some .int) ∈ TB := tbv (tt4 (List.mem_of_getElem? (i := 235) (by decide +kernel))) rfl
theorem cw_1057 : Cond.methodLink RL 172 yX9_trouble ∈ TB := tbv (tt4 (List.mem_of_getElem? (i := 236) (by decide +kernel))) rfl
theorem cw_1058 : Cond.instanceMethod yX9_trouble ∈ TB := tbv (tt4 (List.mem_of_getElem? (i := 237) (by decide +kernel))) rfl
theorem cw_1059 : Cond.selects RX9 yX9_trouble yX9_trouble ∈ TB := tbv (tt4 (List.mem_of_getElem? (i := 238) (by decide +kernel))) rfl
theorem cw_1060 : Cond.code yX9_trouble cX9_trouble 1 (some .int) ∈ TB := tbv (tt4 (List.mem_of_getElem? (i := 239) (by decide +kernel))) rfl
theorem cw_1262 : Cond.methodLink RL 165 yX10_thrown ∈ TB := tbv (tt5 (List.mem_of_getElem? (i := 201) (by decide +kernel))) rfl
theorem cw_1263 : Cond.instanceMethod yX10_thrown ∈ TB := tbv (tt5 (List.mem_of_getElem? (i := 202) (by decide +kernel))) rfl
theorem cw_1264 : Cond.selects RX10 yX10_thrown yX10_thrown ∈ TB := tbv (tt5 (List.mem_of_getElem? (i := 203) (by decide +kernel))) rfl
theorem cw_1265 : Cond.code yX10_thrown cX10_thrown 1 (some .int) ∈ TB := tbv (tt5 (List.mem_of_getElem? (i := 204) (by decide +kernel))) rfl
theorem cw_1266 : Cond.methodLink RL 23 yX10_feed ∈ TB := tbv (tt5 (List.mem_of_getElem? (i := 205) (by decide +kernel))) rfl
theorem cw_1267 : Cond.instanceMethod yX10_feed ∈ TB := tbv (tt5 (List.mem_of_getElem? (i := 206) (by decide +kernel))) rfl
theorem cw_1268 : Cond.selects RX10 yX10_feed yX10_feed ∈ TB := tbv (tt5 (List.mem_of_getElem? (i := 207) (by decide +kernel))) rfl
theorem cw_1269 : Cond.code yX10_feed cX10_feed 8 (some .int) ∈ TB := tbv (tt5 (List.mem_of_getElem? (i := 208) (by decide +kernel))) rfl
theorem cw_1270 : Cond.methodLink RL 33 yX10_fault ∈ TB := tbv (tt5 (List.mem_of_getElem? (i := 209) (by decide +kernel))) rfl
theorem cw_1271 : Cond.instanceMethod yX10_fault ∈ TB := tbv (tt5 (List.mem_of_getElem? (i := 210) (by decide +kernel))) rfl
theorem cw_1272 : Cond.selects RX10 yX10_fault yX10_fault ∈ TB := tbv (tt5 (List.mem_of_getElem? (i := 211) (by decide +kernel))) rfl
theorem cw_1273 : Cond.code yX10_fault cX10_fault 1 (some .int) ∈ TB := tbv (tt5 (List.mem_of_getElem? (i := 212) (by decide +kernel))) rfl
theorem cw_1274 : Cond.methodLink RL 37 yX10_where ∈ TB := tbv (tt5 (List.mem_of_getElem? (i := 213) (by decide +kernel))) rfl
theorem cw_1275 : Cond.instanceMethod yX10_where ∈ TB := tbv (tt5 (List.mem_of_getElem? (i := 214) (by decide +kernel))) rfl
theorem cw_1276 : Cond.selects RX10 yX10_where yX10_where ∈ TB := tbv (tt5 (List.mem_of_getElem? (i := 215) (by decide +kernel))) rfl
theorem cw_1277 : Cond.code yX10_where cX10_where 1 (some .int) ∈ TB := tbv (tt5 (List.mem_of_getElem? (i := 216) (by decide +kernel))) rfl
theorem cw_1278 : Cond.methodLink RL 28 yX10_text ∈ TB := tbv (tt5 (List.mem_of_getElem? (i := 217) (by decide +kernel))) rfl
theorem cw_1279 : Cond.instanceMethod yX10_text ∈ TB := tbv (tt5 (List.mem_of_getElem? (i := 218) (by decide +kernel))) rfl
theorem cw_1280 : Cond.selects RX10 yX10_text yX10_text ∈ TB := tbv (tt5 (List.mem_of_getElem? (i := 219) (by decide +kernel))) rfl
theorem cw_1281 : Cond.code yX10_text cX10_text 3 (some .int) ∈ TB := tbv (tt5 (List.mem_of_getElem? (i := 220) (by decide +kernel))) rfl
theorem cw_1410 : Cond.methodLink RL 41 yX10_about ∈ TB := tbv (tt6 (List.mem_of_getElem? (i := 109) (by decide +kernel))) rfl
theorem cw_1411 : Cond.instanceMethod yX10_about ∈ TB := tbv (tt6 (List.mem_of_getElem? (i := 110) (by decide +kernel))) rfl
theorem cw_1412 : Cond.selects RX10 yX10_about yX10_about ∈ TB := tbv (tt6 (List.mem_of_getElem? (i := 111) (by decide +kernel))) rfl
theorem cw_1413 : Cond.code yX10_about cX10_about 2 (some .int) ∈ TB := tbv (tt6 (List.mem_of_getElem? (i := 112) (by decide +kernel))) rfl
theorem cw_1429 : Cond.methodLink RL 46 yX10_bench ∈ TB := tbv (tt6 (List.mem_of_getElem? (i := 128) (by decide +kernel))) rfl
theorem cw_1430 : Cond.instanceMethod yX10_bench ∈ TB := tbv (tt6 (List.mem_of_getElem? (i := 129) (by decide +kernel))) rfl
theorem cw_1431 : Cond.selects RX10 yX10_bench yX10_bench ∈ TB := tbv (tt6 (List.mem_of_getElem? (i := 130) (by decide +kernel))) rfl
theorem cw_1432 : Cond.code yX10_bench cX10_bench 5 (some .int) ∈ TB := tbv (tt6 (List.mem_of_getElem? (i := 131) (by decide +kernel))) rfl
theorem cw_1437 : Cond.methodLink RL 50 yX10_timeOf ∈ TB := tbv (tt6 (List.mem_of_getElem? (i := 136) (by decide +kernel))) rfl
theorem cw_1438 : Cond.instanceMethod yX10_timeOf ∈ TB := tbv (tt6 (List.mem_of_getElem? (i := 137) (by decide +kernel))) rfl
theorem cw_1439 : Cond.selects RX10 yX10_timeOf yX10_timeOf ∈ TB := tbv (tt6 (List.mem_of_getElem? (i := 138) (by decide +kernel))) rfl
theorem cw_1440 : Cond.code yX10_timeOf cX10_timeOf 3 (some .int) ∈ TB := tbv (tt6 (List.mem_of_getElem? (i := 139) (by decide +kernel))) rfl
theorem cw_1445 : Cond.methodLink RL 54 yX10_stream ∈ TB := tbv (tt6 (List.mem_of_getElem? (i := 144) (by decide +kernel))) rfl
theorem cw_1446 : Cond.instanceMethod yX10_stream ∈ TB := tbv (tt6 (List.mem_of_getElem? (i := 145) (by decide +kernel))) rfl
theorem cw_1447 : Cond.selects RX10 yX10_stream yX10_stream ∈ TB := tbv (tt6 (List.mem_of_getElem? (i := 146) (by decide +kernel))) rfl
theorem cw_1448 : Cond.code yX10_stream cX10_stream 3 (some .int) ∈ TB := tbv (tt6 (List.mem_of_getElem? (i := 147) (by decide +kernel))) rfl
theorem cw_1449 : Cond.methodLink RL 59 yX10_cardsOf ∈ TB := tbv (tt6 (List.mem_of_getElem? (i := 148) (by decide +kernel))) rfl
theorem cw_1450 : Cond.instanceMethod yX10_cardsOf ∈ TB := tbv (tt6 (List.mem_of_getElem? (i := 149) (by decide +kernel))) rfl
theorem cw_1451 : Cond.selects RX10 yX10_cardsOf yX10_cardsOf ∈ TB := tbv (tt6 (List.mem_of_getElem? (i := 150) (by decide +kernel))) rfl
theorem cw_1452 : Cond.code yX10_cardsOf cX10_cardsOf 4 (some .int) ∈ TB := tbv (tt6 (List.mem_of_getElem? (i := 151) (by decide +kernel))) rfl
theorem cw_1457 : Cond.methodLink RL 64 yX10_begin ∈ TB := tbv (tt6 (List.mem_of_getElem? (i := 156) (by decide +kernel))) rfl
theorem cw_1458 : Cond.instanceMethod yX10_begin ∈ TB := tbv (tt6 (List.mem_of_getElem? (i := 157) (by decide +kernel))) rfl
theorem cw_1459 : Cond.selects RX10 yX10_begin yX10_begin ∈ TB := tbv (tt6 (List.mem_of_getElem? (i := 158) (by decide +kernel))) rfl
theorem cw_1460 : Cond.code yX10_begin cX10_begin 4 (some .boolean) ∈ TB := tbv (tt6 (List.mem_of_getElem? (i := 159) (by decide +kernel))) rfl
theorem cw_1469 : Cond.methodLink RL 68 yX10_run ∈ TB := tbv (tt6 (List.mem_of_getElem? (i := 168) (by decide +kernel))) rfl
theorem cw_1470 : Cond.instanceMethod yX10_run ∈ TB := tbv (tt6 (List.mem_of_getElem? (i := 169) (by decide +kernel))) rfl
theorem cw_1471 : Cond.selects RX10 yX10_run yX10_run ∈ TB := tbv (tt6 (List.mem_of_getElem? (i := 170) (by decide +kernel))) rfl
theorem cw_1472 : Cond.code yX10_run cX10_run 4 (some .int) ∈ TB := tbv (tt6 (List.mem_of_getElem? (i := 171) (by decide +kernel))) rfl
theorem cw_1512 : Cond.methodLink RL 72 yX10_does ∈ TB := tbv (tt6 (List.mem_of_getElem? (i := 211) (by decide +kernel))) rfl
theorem cw_1513 : Cond.instanceMethod yX10_does ∈ TB := tbv (tt6 (List.mem_of_getElem? (i := 212) (by decide +kernel))) rfl
theorem cw_1514 : Cond.selects RX10 yX10_does yX10_does ∈ TB := tbv (tt6 (List.mem_of_getElem? (i := 213) (by decide +kernel))) rfl
theorem cw_1515 : Cond.code yX10_does cX10_does 4 (some .int) ∈ TB := tbv (tt6 (List.mem_of_getElem? (i := 214) (by decide +kernel))) rfl
theorem cw_1516 : Cond.methodLink RL 76 yX10_counts ∈ TB := tbv (tt6 (List.mem_of_getElem? (i := 215) (by decide +kernel))) rfl
theorem cw_1517 : Cond.instanceMethod yX10_counts ∈ TB := tbv (tt6 (List.mem_of_getElem? (i := 216) (by decide +kernel))) rfl
theorem cw_1518 : Cond.selects RX10 yX10_counts yX10_counts ∈ TB := tbv (tt6 (List.mem_of_getElem? (i := 217) (by decide +kernel))) rfl
theorem cw_1519 : Cond.code yX10_counts cX10_counts 3 (some .int) ∈ TB := tbv (tt6 (List.mem_of_getElem? (i := 218) (by decide +kernel))) rfl
theorem cw_1520 : Cond.methodLink RL 80 yX10_orders ∈ TB := tbv (tt6 (List.mem_of_getElem? (i := 219) (by decide +kernel))) rfl
theorem cw_1521 : Cond.instanceMethod yX10_orders ∈ TB := tbv (tt6 (List.mem_of_getElem? (i := 220) (by decide +kernel))) rfl
theorem cw_1522 : Cond.selects RX10 yX10_orders yX10_orders ∈ TB := tbv (tt6 (List.mem_of_getElem? (i := 221) (by decide +kernel))) rfl
theorem cw_1523 : Cond.code yX10_orders cX10_orders 3 (some .int) ∈ TB := tbv (tt6 (List.mem_of_getElem? (i := 222) (by decide +kernel))) rfl
theorem cw_1532 : Cond.methodLink RL 84 yX10_starved ∈ TB := tbv (tt6 (List.mem_of_getElem? (i := 231) (by decide +kernel))) rfl
theorem cw_1533 : Cond.instanceMethod yX10_starved ∈ TB := tbv (tt6 (List.mem_of_getElem? (i := 232) (by decide +kernel))) rfl
theorem cw_1534 : Cond.selects RX10 yX10_starved yX10_starved ∈ TB := tbv (tt6 (List.mem_of_getElem? (i := 233) (by decide +kernel))) rfl
theorem cw_1535 : Cond.code yX10_starved cX10_starved 2 (some .int) ∈ TB := tbv (tt6 (List.mem_of_getElem? (i := 234) (by decide +kernel))) rfl
theorem cw_1536 : Cond.methodLink RL 96 yX10_rate ∈ TB := tbv (tt6 (List.mem_of_getElem? (i := 235) (by decide +kernel))) rfl
theorem cw_1537 : Cond.instanceMethod yX10_rate ∈ TB := tbv (tt6 (List.mem_of_getElem? (i := 236) (by decide +kernel))) rfl
theorem cw_1538 : Cond.selects RX10 yX10_rate yX10_rate ∈ TB := tbv (tt6 (List.mem_of_getElem? (i := 237) (by decide +kernel))) rfl
theorem cw_1539 : Cond.code yX10_rate cX10_rate 4 (some .int) ∈ TB := tbv (tt6 (List.mem_of_getElem? (i := 238) (by decide +kernel))) rfl
theorem cw_1543 : Cond.methodLink RL 100 yX10_busiest ∈ TB := tbv (tt7 (List.mem_of_getElem? (i := 2) (by decide +kernel))) rfl
theorem cw_1544 : Cond.instanceMethod yX10_busiest ∈ TB := tbv (tt7 (List.mem_of_getElem? (i := 3) (by decide +kernel))) rfl
theorem cw_1545 : Cond.selects RX10 yX10_busiest yX10_busiest ∈ TB := tbv (tt7 (List.mem_of_getElem? (i := 4) (by decide +kernel))) rfl
theorem cw_1546 : Cond.code yX10_busiest cX10_busiest 3 (some .int) ∈ TB := tbv (tt7 (List.mem_of_getElem? (i := 5) (by decide +kernel))) rfl
theorem cw_1547 : Cond.methodLink RL 88 yX10_peak ∈ TB := tbv (tt7 (List.mem_of_getElem? (i := 6) (by decide +kernel))) rfl
theorem cw_1548 : Cond.instanceMethod yX10_peak ∈ TB := tbv (tt7 (List.mem_of_getElem? (i := 7) (by decide +kernel))) rfl
theorem cw_1549 : Cond.selects RX10 yX10_peak yX10_peak ∈ TB := tbv (tt7 (List.mem_of_getElem? (i := 8) (by decide +kernel))) rfl
theorem cw_1550 : Cond.code yX10_peak cX10_peak 2 (some .int) ∈ TB := tbv (tt7 (List.mem_of_getElem? (i := 9) (by decide +kernel))) rfl
theorem cw_1551 : Cond.methodLink RL 92 yX10_firstOf ∈ TB := tbv (tt7 (List.mem_of_getElem? (i := 10) (by decide +kernel))) rfl
theorem cw_1552 : Cond.instanceMethod yX10_firstOf ∈ TB := tbv (tt7 (List.mem_of_getElem? (i := 11) (by decide +kernel))) rfl
theorem cw_1553 : Cond.selects RX10 yX10_firstOf yX10_firstOf ∈ TB := tbv (tt7 (List.mem_of_getElem? (i := 12) (by decide +kernel))) rfl
theorem cw_1554 : Cond.code yX10_firstOf cX10_firstOf 2 (some .int) ∈ TB := tbv (tt7 (List.mem_of_getElem? (i := 13) (by decide +kernel))) rfl
theorem cw_1555 : Cond.methodLink RL 104 yX10_yields ∈ TB := tbv (tt7 (List.mem_of_getElem? (i := 14) (by decide +kernel))) rfl
theorem cw_1556 : Cond.instanceMethod yX10_yields ∈ TB := tbv (tt7 (List.mem_of_getElem? (i := 15) (by decide +kernel))) rfl
theorem cw_1557 : Cond.selects RX10 yX10_yields yX10_yields ∈ TB := tbv (tt7 (List.mem_of_getElem? (i := 16) (by decide +kernel))) rfl
theorem cw_1558 : Cond.code yX10_yields cX10_yields 2 (some .int) ∈ TB := tbv (tt7 (List.mem_of_getElem? (i := 17) (by decide +kernel))) rfl
theorem cw_1574 : Cond.methodLink RL 109 yX10_would ∈ TB := tbv (tt7 (List.mem_of_getElem? (i := 33) (by decide +kernel))) rfl
theorem cw_1575 : Cond.instanceMethod yX10_would ∈ TB := tbv (tt7 (List.mem_of_getElem? (i := 34) (by decide +kernel))) rfl
theorem cw_1576 : Cond.selects RX10 yX10_would yX10_would ∈ TB := tbv (tt7 (List.mem_of_getElem? (i := 35) (by decide +kernel))) rfl
theorem cw_1577 : Cond.code yX10_would cX10_would 5 (some .int) ∈ TB := tbv (tt7 (List.mem_of_getElem? (i := 36) (by decide +kernel))) rfl
theorem cw_1578 : Cond.methodLink RL 113 yX10_fewest ∈ TB := tbv (tt7 (List.mem_of_getElem? (i := 37) (by decide +kernel))) rfl
theorem cw_1579 : Cond.instanceMethod yX10_fewest ∈ TB := tbv (tt7 (List.mem_of_getElem? (i := 38) (by decide +kernel))) rfl
theorem cw_1580 : Cond.selects RX10 yX10_fewest yX10_fewest ∈ TB := tbv (tt7 (List.mem_of_getElem? (i := 39) (by decide +kernel))) rfl
theorem cw_1581 : Cond.code yX10_fewest cX10_fewest 5 (some .int) ∈ TB := tbv (tt7 (List.mem_of_getElem? (i := 40) (by decide +kernel))) rfl
theorem cw_1582 : Cond.methodLink RL 117 yX10_thin ∈ TB := tbv (tt7 (List.mem_of_getElem? (i := 41) (by decide +kernel))) rfl
theorem cw_1583 : Cond.instanceMethod yX10_thin ∈ TB := tbv (tt7 (List.mem_of_getElem? (i := 42) (by decide +kernel))) rfl
theorem cw_1584 : Cond.selects RX10 yX10_thin yX10_thin ∈ TB := tbv (tt7 (List.mem_of_getElem? (i := 43) (by decide +kernel))) rfl
theorem cw_1585 : Cond.code yX10_thin cX10_thin 5 (some .int) ∈ TB := tbv (tt7 (List.mem_of_getElem? (i := 44) (by decide +kernel))) rfl
theorem cw_1590 : Cond.methodLink RL 121 yX10_thinAt ∈ TB := tbv (tt7 (List.mem_of_getElem? (i := 49) (by decide +kernel))) rfl
theorem cw_1591 : Cond.instanceMethod yX10_thinAt ∈ TB := tbv (tt7 (List.mem_of_getElem? (i := 50) (by decide +kernel))) rfl
theorem cw_1592 : Cond.selects RX10 yX10_thinAt yX10_thinAt ∈ TB := tbv (tt7 (List.mem_of_getElem? (i := 51) (by decide +kernel))) rfl
theorem cw_1593 : Cond.code yX10_thinAt cX10_thinAt 4 (some .int) ∈ TB := tbv (tt7 (List.mem_of_getElem? (i := 52) (by decide +kernel))) rfl
theorem cw_1594 : Cond.methodLink RL 125 yX10_helps ∈ TB := tbv (tt7 (List.mem_of_getElem? (i := 53) (by decide +kernel))) rfl
theorem cw_1595 : Cond.instanceMethod yX10_helps ∈ TB := tbv (tt7 (List.mem_of_getElem? (i := 54) (by decide +kernel))) rfl
theorem cw_1596 : Cond.selects RX10 yX10_helps yX10_helps ∈ TB := tbv (tt7 (List.mem_of_getElem? (i := 55) (by decide +kernel))) rfl
theorem cw_1597 : Cond.code yX10_helps cX10_helps 7 (some .int) ∈ TB := tbv (tt7 (List.mem_of_getElem? (i := 56) (by decide +kernel))) rfl
theorem cw_1598 : Cond.methodLink RL 129 yX10_holds ∈ TB := tbv (tt7 (List.mem_of_getElem? (i := 57) (by decide +kernel))) rfl
theorem cw_1599 : Cond.instanceMethod yX10_holds ∈ TB := tbv (tt7 (List.mem_of_getElem? (i := 58) (by decide +kernel))) rfl
theorem cw_1600 : Cond.selects RX10 yX10_holds yX10_holds ∈ TB := tbv (tt7 (List.mem_of_getElem? (i := 59) (by decide +kernel))) rfl
theorem cw_1601 : Cond.code yX10_holds cX10_holds 6 (some .int) ∈ TB := tbv (tt7 (List.mem_of_getElem? (i := 60) (by decide +kernel))) rfl
theorem cw_1602 : Cond.methodLink RL 133 yX10_comesAgain ∈ TB := tbv (tt7 (List.mem_of_getElem? (i := 61) (by decide +kernel))) rfl
theorem cw_1603 : Cond.instanceMethod yX10_comesAgain ∈ TB := tbv (tt7 (List.mem_of_getElem? (i := 62) (by decide +kernel))) rfl
theorem cw_1604 : Cond.selects RX10 yX10_comesAgain yX10_comesAgain ∈ TB := tbv (tt7 (List.mem_of_getElem? (i := 63) (by decide +kernel))) rfl
theorem cw_1605 : Cond.code yX10_comesAgain cX10_comesAgain 6 (some .int) ∈ TB := tbv (tt7 (List.mem_of_getElem? (i := 64) (by decide +kernel))) rfl
theorem cw_1614 : Cond.methodLink RL 137 yX10_cards ∈ TB := tbv (tt7 (List.mem_of_getElem? (i := 73) (by decide +kernel))) rfl
theorem cw_1615 : Cond.instanceMethod yX10_cards ∈ TB := tbv (tt7 (List.mem_of_getElem? (i := 74) (by decide +kernel))) rfl
theorem cw_1616 : Cond.selects RX10 yX10_cards yX10_cards ∈ TB := tbv (tt7 (List.mem_of_getElem? (i := 75) (by decide +kernel))) rfl
theorem cw_1617 : Cond.code yX10_cards cX10_cards 4 (some .int) ∈ TB := tbv (tt7 (List.mem_of_getElem? (i := 76) (by decide +kernel))) rfl
theorem cw_1626 : Cond.methodLink RL 141 yX10_time ∈ TB := tbv (tt7 (List.mem_of_getElem? (i := 85) (by decide +kernel))) rfl
theorem cw_1627 : Cond.instanceMethod yX10_time ∈ TB := tbv (tt7 (List.mem_of_getElem? (i := 86) (by decide +kernel))) rfl
theorem cw_1628 : Cond.selects RX10 yX10_time yX10_time ∈ TB := tbv (tt7 (List.mem_of_getElem? (i := 87) (by decide +kernel))) rfl
theorem cw_1629 : Cond.code yX10_time cX10_time 4 (some .int) ∈ TB := tbv (tt7 (List.mem_of_getElem? (i := 88) (by decide +kernel))) rfl
theorem cw_1630 : Cond.methodLink RL 145 yX10_rule ∈ TB := tbv (tt7 (List.mem_of_getElem? (i := 89) (by decide +kernel))) rfl
theorem cw_1631 : Cond.instanceMethod yX10_rule ∈ TB := tbv (tt7 (List.mem_of_getElem? (i := 90) (by decide +kernel))) rfl
theorem cw_1632 : Cond.selects RX10 yX10_rule yX10_rule ∈ TB := tbv (tt7 (List.mem_of_getElem? (i := 91) (by decide +kernel))) rfl
theorem cw_1633 : Cond.code yX10_rule cX10_rule 2 (some .int) ∈ TB := tbv (tt7 (List.mem_of_getElem? (i := 92) (by decide +kernel))) rfl
theorem cw_1634 : Cond.methodLink RL 149 yX10_undo ∈ TB := tbv (tt7 (List.mem_of_getElem? (i := 93) (by decide +kernel))) rfl
theorem cw_1635 : Cond.instanceMethod yX10_undo ∈ TB := tbv (tt7 (List.mem_of_getElem? (i := 94) (by decide +kernel))) rfl
theorem cw_1636 : Cond.selects RX10 yX10_undo yX10_undo ∈ TB := tbv (tt7 (List.mem_of_getElem? (i := 95) (by decide +kernel))) rfl
theorem cw_1637 : Cond.code yX10_undo cX10_undo 2 (some .int) ∈ TB := tbv (tt7 (List.mem_of_getElem? (i := 96) (by decide +kernel))) rfl
theorem cw_1638 : Cond.methodLink RL 154 yX10_keep ∈ TB := tbv (tt7 (List.mem_of_getElem? (i := 97) (by decide +kernel))) rfl
theorem cw_1639 : Cond.instanceMethod yX10_keep ∈ TB := tbv (tt7 (List.mem_of_getElem? (i := 98) (by decide +kernel))) rfl
theorem cw_1640 : Cond.selects RX10 yX10_keep yX10_keep ∈ TB := tbv (tt7 (List.mem_of_getElem? (i := 99) (by decide +kernel))) rfl
theorem cw_1641 : Cond.code yX10_keep cX10_keep 3 (some .boolean) ∈ TB := tbv (tt7 (List.mem_of_getElem? (i := 100) (by decide +kernel))) rfl
theorem cw_1642 : Cond.methodLink RL 158 yX10_back ∈ TB := tbv (tt7 (List.mem_of_getElem? (i := 101) (by decide +kernel))) rfl
theorem cw_1643 : Cond.instanceMethod yX10_back ∈ TB := tbv (tt7 (List.mem_of_getElem? (i := 102) (by decide +kernel))) rfl
theorem cw_1644 : Cond.selects RX10 yX10_back yX10_back ∈ TB := tbv (tt7 (List.mem_of_getElem? (i := 103) (by decide +kernel))) rfl
theorem cw_1645 : Cond.code yX10_back cX10_back 3 (some .boolean) ∈ TB := tbv (tt7 (List.mem_of_getElem? (i := 104) (by decide +kernel))) rfl
theorem cw_1646 : Cond.methodLink RL 164 yX10_letter ∈ TB := tbv (tt7 (List.mem_of_getElem? (i := 105) (by decide +kernel))) rfl
theorem cw_1647 : Cond.instanceMethod yX10_letter ∈ TB := tbv (tt7 (List.mem_of_getElem? (i := 106) (by decide +kernel))) rfl
theorem cw_1648 : Cond.selects RX10 yX10_letter yX10_letter ∈ TB := tbv (tt7 (List.mem_of_getElem? (i := 107) (by decide +kernel))) rfl
theorem cw_1649 : Cond.code yX10_letter cX10_letter 9 (some .int) ∈ TB := tbv (tt7 (List.mem_of_getElem? (i := 108) (by decide +kernel))) rfl
theorem cw_1650 : Cond.methodLink RL 171 yX10_bytes ∈ TB := tbv (tt7 (List.mem_of_getElem? (i := 109) (by decide +kernel))) rfl
theorem cw_1651 : Cond.instanceMethod yX10_bytes ∈ TB := tbv (tt7 (List.mem_of_getElem? (i := 110) (by decide +kernel))) rfl
theorem cw_1652 : Cond.selects RX10 yX10_bytes yX10_bytes ∈ TB := tbv (tt7 (List.mem_of_getElem? (i := 111) (by decide +kernel))) rfl
theorem cw_1653 : Cond.code yX10_bytes cX10_bytes 1 (some .int) ∈ TB := tbv (tt7 (List.mem_of_getElem? (i := 112) (by decide +kernel))) rfl
theorem cw_1654 : Cond.methodLink RL 175 yX10_trouble ∈ TB := tbv (tt7 (List.mem_of_getElem? (i := 113) (by decide +kernel))) rfl
theorem cw_1655 : Cond.instanceMethod yX10_trouble ∈ TB := tbv (tt7 (List.mem_of_getElem? (i := 114) (by decide +kernel))) rfl
theorem cw_1656 : Cond.selects RX10 yX10_trouble yX10_trouble ∈ TB := tbv (tt7 (List.mem_of_getElem? (i := 115) (by decide +kernel))) rfl
theorem cw_1657 : Cond.code yX10_trouble cX10_trouble 1 (some .int) ∈ TB := tbv (tt7 (List.mem_of_getElem? (i := 116) (by decide +kernel))) rfl
theorem lwv_19 : CWV RL 19 yX9_feed cX9_feed 6 (some .int) 5 := ⟨cw_486, cw_483, cw_484, cw_485, cw_102, by decide +kernel⟩
theorem lwv_23 : CWV RL 23 yX10_feed cX10_feed 8 (some .int) 5 := ⟨cw_1269, cw_1266, cw_1267, cw_1268, cw_111, by decide +kernel⟩
theorem lwv_24 : CWV RL 24 yX9_text cX9_text 2 (some .int) 1 := ⟨cw_494, cw_491, cw_492, cw_493, cw_102, by decide +kernel⟩
theorem lwv_28 : CWV RL 28 yX10_text cX10_text 3 (some .int) 1 := ⟨cw_1281, cw_1278, cw_1279, cw_1280, cw_111, by decide +kernel⟩
theorem lwv_29 : CWV RL 29 yX9_fault cX9_fault 1 (some .int) 0 := ⟨cw_718, cw_715, cw_716, cw_717, cw_102, by decide +kernel⟩
theorem lwv_33 : CWV RL 33 yX10_fault cX10_fault 1 (some .int) 0 := ⟨cw_1273, cw_1270, cw_1271, cw_1272, cw_111, by decide +kernel⟩
theorem lwv_34 : CWV RL 34 yX9_where cX9_where 1 (some .int) 0 := ⟨cw_722, cw_719, cw_720, cw_721, cw_102, by decide +kernel⟩
theorem lwv_37 : CWV RL 37 yX10_where cX10_where 1 (some .int) 0 := ⟨cw_1277, cw_1274, cw_1275, cw_1276, cw_111, by decide +kernel⟩
theorem lwv_38 : CWV RL 38 yX9_about cX9_about 2 (some .int) 1 := ⟨cw_726, cw_723, cw_724, cw_725, cw_102, by decide +kernel⟩
theorem lwv_41 : CWV RL 41 yX10_about cX10_about 2 (some .int) 1 := ⟨cw_1413, cw_1410, cw_1411, cw_1412, cw_111, by decide +kernel⟩
theorem lwv_42 : CWV RL 42 yX9_bench cX9_bench 3 (some .int) 2 := ⟨cw_741, cw_738, cw_739, cw_740, cw_102, by decide +kernel⟩
theorem lwv_46 : CWV RL 46 yX10_bench cX10_bench 5 (some .int) 2 := ⟨cw_1432, cw_1429, cw_1430, cw_1431, cw_111, by decide +kernel⟩
theorem lwv_47 : CWV RL 47 yX9_timeOf cX9_timeOf 3 (some .int) 2 := ⟨cw_754, cw_751, cw_752, cw_753, cw_102, by decide +kernel⟩
theorem lwv_50 : CWV RL 50 yX10_timeOf cX10_timeOf 3 (some .int) 2 := ⟨cw_1440, cw_1437, cw_1438, cw_1439, cw_111, by decide +kernel⟩
theorem lwv_51 : CWV RL 51 yX9_stream cX9_stream 3 (some .int) 2 := ⟨cw_763, cw_760, cw_761, cw_762, cw_102, by decide +kernel⟩
theorem lwv_54 : CWV RL 54 yX10_stream cX10_stream 3 (some .int) 2 := ⟨cw_1448, cw_1445, cw_1446, cw_1447, cw_111, by decide +kernel⟩
theorem lwv_55 : CWV RL 55 yX9_cardsOf cX9_cardsOf 5 (some .int) 3 := ⟨cw_767, cw_764, cw_765, cw_766, cw_102, by decide +kernel⟩
theorem lwv_59 : CWV RL 59 yX10_cardsOf cX10_cardsOf 4 (some .int) 3 := ⟨cw_1452, cw_1449, cw_1450, cw_1451, cw_111, by decide +kernel⟩
theorem lwv_60 : CWV RL 60 yX9_begin cX9_begin 2 (some .boolean) 1 := ⟨cw_775, cw_772, cw_773, cw_774, cw_102, by decide +kernel⟩
theorem lwv_64 : CWV RL 64 yX10_begin cX10_begin 4 (some .boolean) 1 := ⟨cw_1460, cw_1457, cw_1458, cw_1459, cw_111, by decide +kernel⟩
theorem lwv_65 : CWV RL 65 yX9_run cX9_run 4 (some .int) 1 := ⟨cw_779, cw_776, cw_777, cw_778, cw_102, by decide +kernel⟩
theorem lwv_68 : CWV RL 68 yX10_run cX10_run 4 (some .int) 1 := ⟨cw_1472, cw_1469, cw_1470, cw_1471, cw_111, by decide +kernel⟩
theorem lwv_69 : CWV RL 69 yX9_does cX9_does 3 (some .int) 2 := ⟨cw_832, cw_829, cw_830, cw_831, cw_102, by decide +kernel⟩
theorem lwv_72 : CWV RL 72 yX10_does cX10_does 4 (some .int) 2 := ⟨cw_1515, cw_1512, cw_1513, cw_1514, cw_111, by decide +kernel⟩
theorem lwv_73 : CWV RL 73 yX9_counts cX9_counts 3 (some .int) 2 := ⟨cw_840, cw_837, cw_838, cw_839, cw_102, by decide +kernel⟩
theorem lwv_76 : CWV RL 76 yX10_counts cX10_counts 3 (some .int) 2 := ⟨cw_1519, cw_1516, cw_1517, cw_1518, cw_111, by decide +kernel⟩
theorem lwv_77 : CWV RL 77 yX9_orders cX9_orders 3 (some .int) 2 := ⟨cw_848, cw_845, cw_846, cw_847, cw_102, by decide +kernel⟩
theorem lwv_80 : CWV RL 80 yX10_orders cX10_orders 3 (some .int) 2 := ⟨cw_1523, cw_1520, cw_1521, cw_1522, cw_111, by decide +kernel⟩
theorem lwv_81 : CWV RL 81 yX9_starved cX9_starved 2 (some .int) 1 := ⟨cw_852, cw_849, cw_850, cw_851, cw_102, by decide +kernel⟩
theorem lwv_84 : CWV RL 84 yX10_starved cX10_starved 2 (some .int) 1 := ⟨cw_1535, cw_1532, cw_1533, cw_1534, cw_111, by decide +kernel⟩
theorem lwv_85 : CWV RL 85 yX9_peak cX9_peak 2 (some .int) 1 := ⟨cw_856, cw_853, cw_854, cw_855, cw_102, by decide +kernel⟩
theorem lwv_88 : CWV RL 88 yX10_peak cX10_peak 2 (some .int) 1 := ⟨cw_1550, cw_1547, cw_1548, cw_1549, cw_111, by decide +kernel⟩
theorem lwv_89 : CWV RL 89 yX9_firstOf cX9_firstOf 2 (some .int) 1 := ⟨cw_860, cw_857, cw_858, cw_859, cw_102, by decide +kernel⟩
theorem lwv_92 : CWV RL 92 yX10_firstOf cX10_firstOf 2 (some .int) 1 := ⟨cw_1554, cw_1551, cw_1552, cw_1553, cw_111, by decide +kernel⟩
theorem lwv_93 : CWV RL 93 yX9_rate cX9_rate 4 (some .int) 1 := ⟨cw_864, cw_861, cw_862, cw_863, cw_102, by decide +kernel⟩
theorem lwv_96 : CWV RL 96 yX10_rate cX10_rate 4 (some .int) 1 := ⟨cw_1539, cw_1536, cw_1537, cw_1538, cw_111, by decide +kernel⟩
theorem lwv_97 : CWV RL 97 yX9_busiest cX9_busiest 1 (some .int) 0 := ⟨cw_872, cw_869, cw_870, cw_871, cw_102, by decide +kernel⟩
theorem lwv_100 : CWV RL 100 yX10_busiest cX10_busiest 3 (some .int) 0 := ⟨cw_1546, cw_1543, cw_1544, cw_1545, cw_111, by decide +kernel⟩
theorem lwv_101 : CWV RL 101 yX9_yields cX9_yields 2 (some .int) 1 := ⟨cw_881, cw_878, cw_879, cw_880, cw_102, by decide +kernel⟩
theorem lwv_104 : CWV RL 104 yX10_yields cX10_yields 2 (some .int) 1 := ⟨cw_1558, cw_1555, cw_1556, cw_1557, cw_111, by decide +kernel⟩
theorem lwv_105 : CWV RL 105 yX9_would cX9_would 5 (some .int) 4 := ⟨cw_911, cw_908, cw_909, cw_910, cw_102, by decide +kernel⟩
theorem lwv_109 : CWV RL 109 yX10_would cX10_would 5 (some .int) 4 := ⟨cw_1577, cw_1574, cw_1575, cw_1576, cw_111, by decide +kernel⟩
theorem lwv_110 : CWV RL 110 yX9_fewest cX9_fewest 3 (some .int) 2 := ⟨cw_919, cw_916, cw_917, cw_918, cw_102, by decide +kernel⟩
theorem lwv_113 : CWV RL 113 yX10_fewest cX10_fewest 5 (some .int) 2 := ⟨cw_1581, cw_1578, cw_1579, cw_1580, cw_111, by decide +kernel⟩
theorem lwv_114 : CWV RL 114 yX9_thin cX9_thin 2 (some .int) 1 := ⟨cw_928, cw_925, cw_926, cw_927, cw_102, by decide +kernel⟩
theorem lwv_117 : CWV RL 117 yX10_thin cX10_thin 5 (some .int) 1 := ⟨cw_1585, cw_1582, cw_1583, cw_1584, cw_111, by decide +kernel⟩
theorem lwv_118 : CWV RL 118 yX9_thinAt cX9_thinAt 4 (some .int) 3 := ⟨cw_937, cw_934, cw_935, cw_936, cw_102, by decide +kernel⟩
theorem lwv_121 : CWV RL 121 yX10_thinAt cX10_thinAt 4 (some .int) 3 := ⟨cw_1593, cw_1590, cw_1591, cw_1592, cw_111, by decide +kernel⟩
theorem lwv_122 : CWV RL 122 yX9_helps cX9_helps 2 (some .int) 1 := ⟨cw_941, cw_938, cw_939, cw_940, cw_102, by decide +kernel⟩
theorem lwv_125 : CWV RL 125 yX10_helps cX10_helps 7 (some .int) 1 := ⟨cw_1597, cw_1594, cw_1595, cw_1596, cw_111, by decide +kernel⟩
theorem lwv_126 : CWV RL 126 yX9_holds cX9_holds 2 (some .int) 1 := ⟨cw_950, cw_947, cw_948, cw_949, cw_102, by decide +kernel⟩
theorem lwv_129 : CWV RL 129 yX10_holds cX10_holds 6 (some .int) 1 := ⟨cw_1601, cw_1598, cw_1599, cw_1600, cw_111, by decide +kernel⟩
theorem lwv_134 : CWV RL 134 yX9_cards cX9_cards 4 (some .int) 3 := ⟨cw_1015, cw_1012, cw_1013, cw_1014, cw_102, by decide +kernel⟩
theorem lwv_137 : CWV RL 137 yX10_cards cX10_cards 4 (some .int) 3 := ⟨cw_1617, cw_1614, cw_1615, cw_1616, cw_111, by decide +kernel⟩
theorem lwv_138 : CWV RL 138 yX9_time cX9_time 4 (some .int) 3 := ⟨cw_1028, cw_1025, cw_1026, cw_1027, cw_102, by decide +kernel⟩
theorem lwv_141 : CWV RL 141 yX10_time cX10_time 4 (some .int) 3 := ⟨cw_1629, cw_1626, cw_1627, cw_1628, cw_111, by decide +kernel⟩
theorem lwv_142 : CWV RL 142 yX9_rule cX9_rule 2 (some .int) 1 := ⟨cw_1032, cw_1029, cw_1030, cw_1031, cw_102, by decide +kernel⟩
theorem lwv_145 : CWV RL 145 yX10_rule cX10_rule 2 (some .int) 1 := ⟨cw_1633, cw_1630, cw_1631, cw_1632, cw_111, by decide +kernel⟩
theorem lwv_146 : CWV RL 146 yX9_undo cX9_undo 1 (some .int) 0 := ⟨cw_1036, cw_1033, cw_1034, cw_1035, cw_102, by decide +kernel⟩
theorem lwv_149 : CWV RL 149 yX10_undo cX10_undo 2 (some .int) 0 := ⟨cw_1637, cw_1634, cw_1635, cw_1636, cw_111, by decide +kernel⟩
theorem lwv_150 : CWV RL 150 yX9_keep cX9_keep 3 (some .boolean) 1 := ⟨cw_1044, cw_1041, cw_1042, cw_1043, cw_102, by decide +kernel⟩
theorem lwv_154 : CWV RL 154 yX10_keep cX10_keep 3 (some .boolean) 1 := ⟨cw_1641, cw_1638, cw_1639, cw_1640, cw_111, by decide +kernel⟩
theorem lwv_155 : CWV RL 155 yX9_back cX9_back 3 (some .boolean) 1 := ⟨cw_1052, cw_1049, cw_1050, cw_1051, cw_102, by decide +kernel⟩
theorem lwv_158 : CWV RL 158 yX10_back cX10_back 3 (some .boolean) 1 := ⟨cw_1645, cw_1642, cw_1643, cw_1644, cw_111, by decide +kernel⟩
theorem lwv_168 : CWV RL 168 yX9_bytes cX9_bytes 1 (some .int) 0 := ⟨cw_1056, cw_1053, cw_1054, cw_1055, cw_102, by decide +kernel⟩
theorem lwv_171 : CWV RL 171 yX10_bytes cX10_bytes 1 (some .int) 0 := ⟨cw_1653, cw_1650, cw_1651, cw_1652, cw_111, by decide +kernel⟩
theorem lwv_172 : CWV RL 172 yX9_trouble cX9_trouble 1 (some .int) 0 := ⟨cw_1060, cw_1057, cw_1058, cw_1059, cw_102, by decide +kernel⟩
theorem lwv_175 : CWV RL 175 yX10_trouble cX10_trouble 1 (some .int) 0 := ⟨cw_1657, cw_1654, cw_1655, cw_1656, cw_111, by decide +kernel⟩
theorem lwv_130 : CWV RL 130 yX9_comesAgain cX9_comesAgain 4 (some .int) 2 := ⟨cw_958, cw_955, cw_956, cw_957, cw_102, by decide +kernel⟩
theorem lwv_133 : CWV RL 133 yX10_comesAgain cX10_comesAgain 6 (some .int) 2 := ⟨cw_1605, cw_1602, cw_1603, cw_1604, cw_111, by decide +kernel⟩
theorem lwv_164 : CWV RL 164 yX10_letter cX10_letter 9 (some .int) 3 := ⟨cw_1649, cw_1646, cw_1647, cw_1648, cw_111, by decide +kernel⟩
theorem lwv_165 : CWV RL 165 yX10_thrown cX10_thrown 1 (some .int) 0 := ⟨cw_1265, cw_1262, cw_1263, cw_1264, cw_111, by decide +kernel⟩
theorem mapE {X X2 : Mm} {x : Option Int32} {r : Int32} (h : x.map (fun r => (r, X)) = some (r, X2)) : x = some r ∧ X2 = X := by
  cases x with
  | none => cases h
  | some v => cases h; exact ⟨rfl, rfl⟩
theorem nx_bool {l : Launch} {E : En} {own : String} {cc : ByteArray} {nL : Nat} {ret : Option FieldType} {R : Room} {XF : XFt} {G : Nat → List (Nat × Value) → List Value → NW → Prop} {pc : Nat} {lv : List (Nat × Value)} {st : List Value} {w : NW} {v : Int32} (h : NX l E own cc nL ret R XF G) (d1 : decode cc pc = .ok (.ifCond .eq 7, 3)) (d2 : decode cc (pc + 3) = .ok (.iconst 1, 1)) (d3 : decode cc (pc + 3 + 1) = .ok (.goto 4, 3)) (d4 : decode cc (pc + 7) = .ok (.iconst 0, 1)) (kk : G (pc + 8) lv (.int (if v = 0 then 0 else 1) :: st) w) : G pc lv (.int v :: st) w := by
  refine nx_if_eq h (pc + 7) d1 (by omega) (fun hv => ?_) (fun hv => ?_)
  · rw [if_pos hv] at kk
    exact nx_iconst h 0 d4 rfl kk
  · rw [if_neg hv] at kk
    exact nx_iconst h 1 d2 rfl (nx_goto h (pc + 8) d3 (by omega) kk)
