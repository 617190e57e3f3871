theorem dL_law_0 : decode cL_law 0 = .ok (.new 7, 3) := by decide +kernel
theorem dL_law_3 : decode cL_law 3 = .ok (.dup, 1) := by decide +kernel
theorem dL_law_4 : decode cL_law 4 = .ok (.invokespecial 9, 3) := by decide +kernel
theorem dL_law_7 : decode cL_law 7 = .ok (.astore_n 1, 1) := by decide +kernel
theorem dL_law_8 : decode cL_law 8 = .ok (.new 10, 3) := by decide +kernel
theorem dL_law_11 : decode cL_law 11 = .ok (.dup, 1) := by decide +kernel
theorem dL_law_12 : decode cL_law 12 = .ok (.invokespecial 12, 3) := by decide +kernel
theorem dL_law_15 : decode cL_law 15 = .ok (.astore_n 2, 1) := by decide +kernel
theorem dL_law_16 : decode cL_law 16 = .ok (.iconst 0, 1) := by decide +kernel
theorem dL_law_17 : decode cL_law 17 = .ok (.istore_n 3, 1) := by decide +kernel
theorem dL_law_18 : decode cL_law 18 = .ok (.iload_n 3, 1) := by decide +kernel
theorem dL_law_19 : decode cL_law 19 = .ok (.aload_n 0, 1) := by decide +kernel
theorem dL_law_20 : decode cL_law 20 = .ok (.arraylength, 1) := by decide +kernel
theorem dL_law_21 : decode cL_law 21 = .ok (.iconst 5, 1) := by decide +kernel
theorem dL_law_22 : decode cL_law 22 = .ok (.isub, 1) := by decide +kernel
theorem dL_law_23 : decode cL_law 23 = .ok (.if_icmp .gt 1078, 3) := by decide +kernel
theorem dL_law_26 : decode cL_law 26 = .ok (.aload_n 0, 1) := by decide +kernel
theorem dL_law_27 : decode cL_law 27 = .ok (.iload_n 3, 1) := by decide +kernel
theorem dL_law_28 : decode cL_law 28 = .ok (.iaload, 1) := by decide +kernel
theorem dL_law_29 : decode cL_law 29 = .ok (.bipush 63, 2) := by decide +kernel
theorem dL_law_31 : decode cL_law 31 = .ok (.iand, 1) := by decide +kernel
theorem dL_law_32 : decode cL_law 32 = .ok (.tableswitch 1063 0 34 #[156, 179, 222, 245, 268, 281, 294, 317, 340, 363, 396, 419, 432, 465, 478, 511, 524, 557, 590, 623, 656, 679, 692, 725, 778, 801, 834, 857, 900, 933, 957, 980, 1003, 1026, 1049], 156) := by decide +kernel
theorem dL_law_188 : decode cL_law 188 = .ok (.aload_n 1, 1) := by decide +kernel
theorem dL_law_189 : decode cL_law 189 = .ok (.aload_n 0, 1) := by decide +kernel
theorem dL_law_190 : decode cL_law 190 = .ok (.iload_n 3, 1) := by decide +kernel
theorem dL_law_191 : decode cL_law 191 = .ok (.iconst 1, 1) := by decide +kernel
theorem dL_law_192 : decode cL_law 192 = .ok (.iadd, 1) := by decide +kernel
theorem dL_law_193 : decode cL_law 193 = .ok (.iaload, 1) := by decide +kernel
theorem dL_law_194 : decode cL_law 194 = .ok (.invokevirtual 13, 3) := by decide +kernel
theorem dL_law_197 : decode cL_law 197 = .ok (.aload_n 2, 1) := by decide +kernel
theorem dL_law_198 : decode cL_law 198 = .ok (.aload_n 0, 1) := by decide +kernel
theorem dL_law_199 : decode cL_law 199 = .ok (.iload_n 3, 1) := by decide +kernel
theorem dL_law_200 : decode cL_law 200 = .ok (.iconst 1, 1) := by decide +kernel
theorem dL_law_201 : decode cL_law 201 = .ok (.iadd, 1) := by decide +kernel
theorem dL_law_202 : decode cL_law 202 = .ok (.iaload, 1) := by decide +kernel
theorem dL_law_203 : decode cL_law 203 = .ok (.invokevirtual 17, 3) := by decide +kernel
theorem dL_law_206 : decode cL_law 206 = .ok (.if_icmp .eq 889, 3) := by decide +kernel
theorem dL_law_209 : decode cL_law 209 = .ok (.iconst 0, 1) := by decide +kernel
theorem dL_law_210 : decode cL_law 210 = .ok (.ireturn, 1) := by decide +kernel
theorem dL_law_211 : decode cL_law 211 = .ok (.aload_n 1, 1) := by decide +kernel
theorem dL_law_212 : decode cL_law 212 = .ok (.aload_n 0, 1) := by decide +kernel
theorem dL_law_213 : decode cL_law 213 = .ok (.iload_n 3, 1) := by decide +kernel
theorem dL_law_214 : decode cL_law 214 = .ok (.iconst 1, 1) := by decide +kernel
theorem dL_law_215 : decode cL_law 215 = .ok (.iadd, 1) := by decide +kernel
theorem dL_law_216 : decode cL_law 216 = .ok (.iaload, 1) := by decide +kernel
theorem dL_law_217 : decode cL_law 217 = .ok (.aload_n 0, 1) := by decide +kernel
theorem dL_law_218 : decode cL_law 218 = .ok (.iload_n 3, 1) := by decide +kernel
theorem dL_law_219 : decode cL_law 219 = .ok (.iconst 2, 1) := by decide +kernel
theorem dL_law_220 : decode cL_law 220 = .ok (.iadd, 1) := by decide +kernel
theorem dL_law_221 : decode cL_law 221 = .ok (.iaload, 1) := by decide +kernel
theorem dL_law_222 : decode cL_law 222 = .ok (.aload_n 0, 1) := by decide +kernel
theorem dL_law_223 : decode cL_law 223 = .ok (.iload_n 3, 1) := by decide +kernel
theorem dL_law_224 : decode cL_law 224 = .ok (.iconst 3, 1) := by decide +kernel
theorem dL_law_225 : decode cL_law 225 = .ok (.iadd, 1) := by decide +kernel
theorem dL_law_226 : decode cL_law 226 = .ok (.iaload, 1) := by decide +kernel
theorem dL_law_227 : decode cL_law 227 = .ok (.invokevirtual 18, 3) := by decide +kernel
theorem dL_law_230 : decode cL_law 230 = .ok (.aload_n 2, 1) := by decide +kernel
theorem dL_law_231 : decode cL_law 231 = .ok (.aload_n 0, 1) := by decide +kernel
theorem dL_law_232 : decode cL_law 232 = .ok (.iload_n 3, 1) := by decide +kernel
theorem dL_law_233 : decode cL_law 233 = .ok (.iconst 1, 1) := by decide +kernel
theorem dL_law_234 : decode cL_law 234 = .ok (.iadd, 1) := by decide +kernel
theorem dL_law_235 : decode cL_law 235 = .ok (.iaload, 1) := by decide +kernel
theorem dL_law_236 : decode cL_law 236 = .ok (.aload_n 0, 1) := by decide +kernel
theorem dL_law_237 : decode cL_law 237 = .ok (.iload_n 3, 1) := by decide +kernel
theorem dL_law_238 : decode cL_law 238 = .ok (.iconst 2, 1) := by decide +kernel
theorem dL_law_239 : decode cL_law 239 = .ok (.iadd, 1) := by decide +kernel
theorem dL_law_240 : decode cL_law 240 = .ok (.iaload, 1) := by decide +kernel
theorem dL_law_241 : decode cL_law 241 = .ok (.aload_n 0, 1) := by decide +kernel
theorem dL_law_242 : decode cL_law 242 = .ok (.iload_n 3, 1) := by decide +kernel
theorem dL_law_243 : decode cL_law 243 = .ok (.iconst 3, 1) := by decide +kernel
theorem dL_law_244 : decode cL_law 244 = .ok (.iadd, 1) := by decide +kernel
theorem dL_law_245 : decode cL_law 245 = .ok (.iaload, 1) := by decide +kernel
theorem dL_law_246 : decode cL_law 246 = .ok (.invokevirtual 22, 3) := by decide +kernel
theorem dL_law_249 : decode cL_law 249 = .ok (.if_icmp .eq 846, 3) := by decide +kernel
theorem dL_law_252 : decode cL_law 252 = .ok (.iconst 0, 1) := by decide +kernel
theorem dL_law_253 : decode cL_law 253 = .ok (.ireturn, 1) := by decide +kernel
theorem dL_law_254 : decode cL_law 254 = .ok (.aload_n 1, 1) := by decide +kernel
theorem dL_law_255 : decode cL_law 255 = .ok (.aload_n 0, 1) := by decide +kernel
theorem dL_law_256 : decode cL_law 256 = .ok (.iload_n 3, 1) := by decide +kernel
theorem dL_law_257 : decode cL_law 257 = .ok (.iconst 1, 1) := by decide +kernel
theorem dL_law_258 : decode cL_law 258 = .ok (.iadd, 1) := by decide +kernel
theorem dL_law_259 : decode cL_law 259 = .ok (.iaload, 1) := by decide +kernel
theorem dL_law_260 : decode cL_law 260 = .ok (.invokevirtual 23, 3) := by decide +kernel
theorem dL_law_263 : decode cL_law 263 = .ok (.aload_n 2, 1) := by decide +kernel
theorem dL_law_264 : decode cL_law 264 = .ok (.aload_n 0, 1) := by decide +kernel
theorem dL_law_265 : decode cL_law 265 = .ok (.iload_n 3, 1) := by decide +kernel
theorem dL_law_266 : decode cL_law 266 = .ok (.iconst 1, 1) := by decide +kernel
theorem dL_law_267 : decode cL_law 267 = .ok (.iadd, 1) := by decide +kernel
theorem dL_law_268 : decode cL_law 268 = .ok (.iaload, 1) := by decide +kernel
theorem dL_law_269 : decode cL_law 269 = .ok (.invokevirtual 26, 3) := by decide +kernel
theorem dL_law_272 : decode cL_law 272 = .ok (.if_icmp .eq 823, 3) := by decide +kernel
theorem dL_law_275 : decode cL_law 275 = .ok (.iconst 0, 1) := by decide +kernel
theorem dL_law_276 : decode cL_law 276 = .ok (.ireturn, 1) := by decide +kernel
theorem dL_law_277 : decode cL_law 277 = .ok (.aload_n 1, 1) := by decide +kernel
theorem dL_law_278 : decode cL_law 278 = .ok (.aload_n 0, 1) := by decide +kernel
theorem dL_law_279 : decode cL_law 279 = .ok (.iload_n 3, 1) := by decide +kernel
theorem dL_law_280 : decode cL_law 280 = .ok (.iconst 1, 1) := by decide +kernel
theorem dL_law_281 : decode cL_law 281 = .ok (.iadd, 1) := by decide +kernel
theorem dL_law_282 : decode cL_law 282 = .ok (.iaload, 1) := by decide +kernel
theorem dL_law_283 : decode cL_law 283 = .ok (.invokevirtual 27, 3) := by decide +kernel
theorem dL_law_286 : decode cL_law 286 = .ok (.aload_n 2, 1) := by decide +kernel
theorem dL_law_287 : decode cL_law 287 = .ok (.aload_n 0, 1) := by decide +kernel
theorem dL_law_288 : decode cL_law 288 = .ok (.iload_n 3, 1) := by decide +kernel
theorem dL_law_289 : decode cL_law 289 = .ok (.iconst 1, 1) := by decide +kernel
theorem dL_law_290 : decode cL_law 290 = .ok (.iadd, 1) := by decide +kernel
theorem dL_law_291 : decode cL_law 291 = .ok (.iaload, 1) := by decide +kernel
theorem dL_law_292 : decode cL_law 292 = .ok (.invokevirtual 30, 3) := by decide +kernel
theorem dL_law_295 : decode cL_law 295 = .ok (.if_icmp .eq 800, 3) := by decide +kernel
theorem dL_law_298 : decode cL_law 298 = .ok (.iconst 0, 1) := by decide +kernel
theorem dL_law_299 : decode cL_law 299 = .ok (.ireturn, 1) := by decide +kernel
theorem dL_law_300 : decode cL_law 300 = .ok (.aload_n 1, 1) := by decide +kernel
theorem dL_law_301 : decode cL_law 301 = .ok (.invokevirtual 31, 3) := by decide +kernel
theorem dL_law_304 : decode cL_law 304 = .ok (.aload_n 2, 1) := by decide +kernel
theorem dL_law_305 : decode cL_law 305 = .ok (.invokevirtual 35, 3) := by decide +kernel
theorem dL_law_308 : decode cL_law 308 = .ok (.if_icmp .eq 787, 3) := by decide +kernel
theorem dL_law_311 : decode cL_law 311 = .ok (.iconst 0, 1) := by decide +kernel
theorem dL_law_312 : decode cL_law 312 = .ok (.ireturn, 1) := by decide +kernel
theorem dL_law_313 : decode cL_law 313 = .ok (.aload_n 1, 1) := by decide +kernel
theorem dL_law_314 : decode cL_law 314 = .ok (.invokevirtual 36, 3) := by decide +kernel
theorem dL_law_317 : decode cL_law 317 = .ok (.aload_n 2, 1) := by decide +kernel
theorem dL_law_318 : decode cL_law 318 = .ok (.invokevirtual 39, 3) := by decide +kernel
theorem dL_law_321 : decode cL_law 321 = .ok (.if_icmp .eq 774, 3) := by decide +kernel
theorem dL_law_324 : decode cL_law 324 = .ok (.iconst 0, 1) := by decide +kernel
theorem dL_law_325 : decode cL_law 325 = .ok (.ireturn, 1) := by decide +kernel
theorem dL_law_326 : decode cL_law 326 = .ok (.aload_n 1, 1) := by decide +kernel
theorem dL_law_327 : decode cL_law 327 = .ok (.aload_n 0, 1) := by decide +kernel
theorem dL_law_328 : decode cL_law 328 = .ok (.iload_n 3, 1) := by decide +kernel
theorem dL_law_329 : decode cL_law 329 = .ok (.iconst 1, 1) := by decide +kernel
theorem dL_law_330 : decode cL_law 330 = .ok (.iadd, 1) := by decide +kernel
theorem dL_law_331 : decode cL_law 331 = .ok (.iaload, 1) := by decide +kernel
theorem dL_law_332 : decode cL_law 332 = .ok (.invokevirtual 40, 3) := by decide +kernel
theorem dL_law_335 : decode cL_law 335 = .ok (.aload_n 2, 1) := by decide +kernel
theorem dL_law_336 : decode cL_law 336 = .ok (.aload_n 0, 1) := by decide +kernel
theorem dL_law_337 : decode cL_law 337 = .ok (.iload_n 3, 1) := by decide +kernel
theorem dL_law_338 : decode cL_law 338 = .ok (.iconst 1, 1) := by decide +kernel
theorem dL_law_339 : decode cL_law 339 = .ok (.iadd, 1) := by decide +kernel
theorem dL_law_340 : decode cL_law 340 = .ok (.iaload, 1) := by decide +kernel
theorem dL_law_341 : decode cL_law 341 = .ok (.invokevirtual 43, 3) := by decide +kernel
theorem dL_law_344 : decode cL_law 344 = .ok (.if_icmp .eq 751, 3) := by decide +kernel
theorem dL_law_347 : decode cL_law 347 = .ok (.iconst 0, 1) := by decide +kernel
theorem dL_law_348 : decode cL_law 348 = .ok (.ireturn, 1) := by decide +kernel
theorem dL_law_349 : decode cL_law 349 = .ok (.aload_n 1, 1) := by decide +kernel
theorem dL_law_350 : decode cL_law 350 = .ok (.aload_n 0, 1) := by decide +kernel
theorem dL_law_351 : decode cL_law 351 = .ok (.iload_n 3, 1) := by decide +kernel
theorem dL_law_352 : decode cL_law 352 = .ok (.iconst 1, 1) := by decide +kernel
theorem dL_law_353 : decode cL_law 353 = .ok (.iadd, 1) := by decide +kernel
theorem dL_law_354 : decode cL_law 354 = .ok (.iaload, 1) := by decide +kernel
theorem dL_law_355 : decode cL_law 355 = .ok (.invokevirtual 44, 3) := by decide +kernel
theorem dL_law_358 : decode cL_law 358 = .ok (.aload_n 2, 1) := by decide +kernel
theorem dL_law_359 : decode cL_law 359 = .ok (.aload_n 0, 1) := by decide +kernel
theorem dL_law_360 : decode cL_law 360 = .ok (.iload_n 3, 1) := by decide +kernel
theorem dL_law_361 : decode cL_law 361 = .ok (.iconst 1, 1) := by decide +kernel
theorem dL_law_362 : decode cL_law 362 = .ok (.iadd, 1) := by decide +kernel
theorem dL_law_363 : decode cL_law 363 = .ok (.iaload, 1) := by decide +kernel
theorem dL_law_364 : decode cL_law 364 = .ok (.invokevirtual 47, 3) := by decide +kernel
theorem dL_law_367 : decode cL_law 367 = .ok (.if_icmp .eq 728, 3) := by decide +kernel
theorem dL_law_370 : decode cL_law 370 = .ok (.iconst 0, 1) := by decide +kernel
theorem dL_law_371 : decode cL_law 371 = .ok (.ireturn, 1) := by decide +kernel
theorem dL_law_372 : decode cL_law 372 = .ok (.aload_n 1, 1) := by decide +kernel
theorem dL_law_373 : decode cL_law 373 = .ok (.aload_n 0, 1) := by decide +kernel
theorem dL_law_374 : decode cL_law 374 = .ok (.iload_n 3, 1) := by decide +kernel
theorem dL_law_375 : decode cL_law 375 = .ok (.iconst 1, 1) := by decide +kernel
theorem dL_law_376 : decode cL_law 376 = .ok (.iadd, 1) := by decide +kernel
theorem dL_law_377 : decode cL_law 377 = .ok (.iaload, 1) := by decide +kernel
theorem dL_law_378 : decode cL_law 378 = .ok (.invokevirtual 48, 3) := by decide +kernel
theorem dL_law_381 : decode cL_law 381 = .ok (.aload_n 2, 1) := by decide +kernel
theorem dL_law_382 : decode cL_law 382 = .ok (.aload_n 0, 1) := by decide +kernel
theorem dL_law_383 : decode cL_law 383 = .ok (.iload_n 3, 1) := by decide +kernel
theorem dL_law_384 : decode cL_law 384 = .ok (.iconst 1, 1) := by decide +kernel
theorem dL_law_385 : decode cL_law 385 = .ok (.iadd, 1) := by decide +kernel
theorem dL_law_386 : decode cL_law 386 = .ok (.iaload, 1) := by decide +kernel
theorem dL_law_387 : decode cL_law 387 = .ok (.invokevirtual 51, 3) := by decide +kernel
theorem dL_law_390 : decode cL_law 390 = .ok (.if_icmp .eq 705, 3) := by decide +kernel
theorem dL_law_393 : decode cL_law 393 = .ok (.iconst 0, 1) := by decide +kernel
theorem dL_law_394 : decode cL_law 394 = .ok (.ireturn, 1) := by decide +kernel
theorem dL_law_395 : decode cL_law 395 = .ok (.aload_n 1, 1) := by decide +kernel
theorem dL_law_396 : decode cL_law 396 = .ok (.aload_n 0, 1) := by decide +kernel
theorem dL_law_397 : decode cL_law 397 = .ok (.iload_n 3, 1) := by decide +kernel
theorem dL_law_398 : decode cL_law 398 = .ok (.iconst 1, 1) := by decide +kernel
theorem dL_law_399 : decode cL_law 399 = .ok (.iadd, 1) := by decide +kernel
theorem dL_law_400 : decode cL_law 400 = .ok (.iaload, 1) := by decide +kernel
theorem dL_law_401 : decode cL_law 401 = .ok (.aload_n 0, 1) := by decide +kernel
theorem dL_law_402 : decode cL_law 402 = .ok (.iload_n 3, 1) := by decide +kernel
theorem dL_law_403 : decode cL_law 403 = .ok (.iconst 2, 1) := by decide +kernel
theorem dL_law_404 : decode cL_law 404 = .ok (.iadd, 1) := by decide +kernel
theorem dL_law_405 : decode cL_law 405 = .ok (.iaload, 1) := by decide +kernel
theorem dL_law_406 : decode cL_law 406 = .ok (.invokevirtual 52, 3) := by decide +kernel
theorem dL_law_409 : decode cL_law 409 = .ok (.aload_n 2, 1) := by decide +kernel
theorem dL_law_410 : decode cL_law 410 = .ok (.aload_n 0, 1) := by decide +kernel
theorem dL_law_411 : decode cL_law 411 = .ok (.iload_n 3, 1) := by decide +kernel
theorem dL_law_412 : decode cL_law 412 = .ok (.iconst 1, 1) := by decide +kernel
theorem dL_law_413 : decode cL_law 413 = .ok (.iadd, 1) := by decide +kernel
theorem dL_law_414 : decode cL_law 414 = .ok (.iaload, 1) := by decide +kernel
theorem dL_law_415 : decode cL_law 415 = .ok (.aload_n 0, 1) := by decide +kernel
theorem dL_law_416 : decode cL_law 416 = .ok (.iload_n 3, 1) := by decide +kernel
theorem dL_law_417 : decode cL_law 417 = .ok (.iconst 2, 1) := by decide +kernel
theorem dL_law_418 : decode cL_law 418 = .ok (.iadd, 1) := by decide +kernel
theorem dL_law_419 : decode cL_law 419 = .ok (.iaload, 1) := by decide +kernel
theorem dL_law_420 : decode cL_law 420 = .ok (.invokevirtual 56, 3) := by decide +kernel
theorem dL_law_423 : decode cL_law 423 = .ok (.if_icmp .eq 672, 3) := by decide +kernel
theorem dL_law_426 : decode cL_law 426 = .ok (.iconst 0, 1) := by decide +kernel
theorem dL_law_427 : decode cL_law 427 = .ok (.ireturn, 1) := by decide +kernel
theorem dL_law_428 : decode cL_law 428 = .ok (.aload_n 1, 1) := by decide +kernel
theorem dL_law_429 : decode cL_law 429 = .ok (.aload_n 0, 1) := by decide +kernel
theorem dL_law_430 : decode cL_law 430 = .ok (.iload_n 3, 1) := by decide +kernel
theorem dL_law_431 : decode cL_law 431 = .ok (.iconst 1, 1) := by decide +kernel
theorem dL_law_432 : decode cL_law 432 = .ok (.iadd, 1) := by decide +kernel
theorem dL_law_433 : decode cL_law 433 = .ok (.iaload, 1) := by decide +kernel
theorem dL_law_434 : decode cL_law 434 = .ok (.invokevirtual 57, 3) := by decide +kernel
theorem dL_law_437 : decode cL_law 437 = .ok (.aload_n 2, 1) := by decide +kernel
theorem dL_law_438 : decode cL_law 438 = .ok (.aload_n 0, 1) := by decide +kernel
theorem dL_law_439 : decode cL_law 439 = .ok (.iload_n 3, 1) := by decide +kernel
theorem dL_law_440 : decode cL_law 440 = .ok (.iconst 1, 1) := by decide +kernel
theorem dL_law_441 : decode cL_law 441 = .ok (.iadd, 1) := by decide +kernel
theorem dL_law_442 : decode cL_law 442 = .ok (.iaload, 1) := by decide +kernel
theorem dL_law_443 : decode cL_law 443 = .ok (.invokevirtual 60, 3) := by decide +kernel
theorem dL_law_446 : decode cL_law 446 = .ok (.if_icmp .eq 649, 3) := by decide +kernel
theorem dL_law_449 : decode cL_law 449 = .ok (.iconst 0, 1) := by decide +kernel
theorem dL_law_450 : decode cL_law 450 = .ok (.ireturn, 1) := by decide +kernel
theorem dL_law_451 : decode cL_law 451 = .ok (.aload_n 1, 1) := by decide +kernel
theorem dL_law_452 : decode cL_law 452 = .ok (.invokevirtual 61, 3) := by decide +kernel
theorem dL_law_455 : decode cL_law 455 = .ok (.aload_n 2, 1) := by decide +kernel
theorem dL_law_456 : decode cL_law 456 = .ok (.invokevirtual 64, 3) := by decide +kernel
theorem dL_law_459 : decode cL_law 459 = .ok (.if_icmp .eq 636, 3) := by decide +kernel
theorem dL_law_462 : decode cL_law 462 = .ok (.iconst 0, 1) := by decide +kernel
theorem dL_law_463 : decode cL_law 463 = .ok (.ireturn, 1) := by decide +kernel
theorem dL_law_464 : decode cL_law 464 = .ok (.aload_n 1, 1) := by decide +kernel
theorem dL_law_465 : decode cL_law 465 = .ok (.aload_n 0, 1) := by decide +kernel
theorem dL_law_466 : decode cL_law 466 = .ok (.iload_n 3, 1) := by decide +kernel
theorem dL_law_467 : decode cL_law 467 = .ok (.iconst 1, 1) := by decide +kernel
theorem dL_law_468 : decode cL_law 468 = .ok (.iadd, 1) := by decide +kernel
theorem dL_law_469 : decode cL_law 469 = .ok (.iaload, 1) := by decide +kernel
theorem dL_law_470 : decode cL_law 470 = .ok (.aload_n 0, 1) := by decide +kernel
theorem dL_law_471 : decode cL_law 471 = .ok (.iload_n 3, 1) := by decide +kernel
theorem dL_law_472 : decode cL_law 472 = .ok (.iconst 2, 1) := by decide +kernel
theorem dL_law_473 : decode cL_law 473 = .ok (.iadd, 1) := by decide +kernel
theorem dL_law_474 : decode cL_law 474 = .ok (.iaload, 1) := by decide +kernel
theorem dL_law_475 : decode cL_law 475 = .ok (.invokevirtual 65, 3) := by decide +kernel
theorem dL_law_478 : decode cL_law 478 = .ok (.aload_n 2, 1) := by decide +kernel
theorem dL_law_479 : decode cL_law 479 = .ok (.aload_n 0, 1) := by decide +kernel
theorem dL_law_480 : decode cL_law 480 = .ok (.iload_n 3, 1) := by decide +kernel
theorem dL_law_481 : decode cL_law 481 = .ok (.iconst 1, 1) := by decide +kernel
theorem dL_law_482 : decode cL_law 482 = .ok (.iadd, 1) := by decide +kernel
theorem dL_law_483 : decode cL_law 483 = .ok (.iaload, 1) := by decide +kernel
theorem dL_law_484 : decode cL_law 484 = .ok (.aload_n 0, 1) := by decide +kernel
theorem dL_law_485 : decode cL_law 485 = .ok (.iload_n 3, 1) := by decide +kernel
theorem dL_law_486 : decode cL_law 486 = .ok (.iconst 2, 1) := by decide +kernel
theorem dL_law_487 : decode cL_law 487 = .ok (.iadd, 1) := by decide +kernel
theorem dL_law_488 : decode cL_law 488 = .ok (.iaload, 1) := by decide +kernel
theorem dL_law_489 : decode cL_law 489 = .ok (.invokevirtual 68, 3) := by decide +kernel
theorem dL_law_492 : decode cL_law 492 = .ok (.if_icmp .eq 603, 3) := by decide +kernel
theorem dL_law_495 : decode cL_law 495 = .ok (.iconst 0, 1) := by decide +kernel
theorem dL_law_496 : decode cL_law 496 = .ok (.ireturn, 1) := by decide +kernel
theorem dL_law_497 : decode cL_law 497 = .ok (.aload_n 1, 1) := by decide +kernel
theorem dL_law_498 : decode cL_law 498 = .ok (.invokevirtual 69, 3) := by decide +kernel
theorem dL_law_501 : decode cL_law 501 = .ok (.aload_n 2, 1) := by decide +kernel
theorem dL_law_502 : decode cL_law 502 = .ok (.invokevirtual 72, 3) := by decide +kernel
theorem dL_law_505 : decode cL_law 505 = .ok (.if_icmp .eq 590, 3) := by decide +kernel
theorem dL_law_508 : decode cL_law 508 = .ok (.iconst 0, 1) := by decide +kernel
theorem dL_law_509 : decode cL_law 509 = .ok (.ireturn, 1) := by decide +kernel
theorem dL_law_510 : decode cL_law 510 = .ok (.aload_n 1, 1) := by decide +kernel
theorem dL_law_511 : decode cL_law 511 = .ok (.aload_n 0, 1) := by decide +kernel
theorem dL_law_512 : decode cL_law 512 = .ok (.iload_n 3, 1) := by decide +kernel
theorem dL_law_513 : decode cL_law 513 = .ok (.iconst 1, 1) := by decide +kernel
theorem dL_law_514 : decode cL_law 514 = .ok (.iadd, 1) := by decide +kernel
theorem dL_law_515 : decode cL_law 515 = .ok (.iaload, 1) := by decide +kernel
theorem dL_law_516 : decode cL_law 516 = .ok (.aload_n 0, 1) := by decide +kernel
theorem dL_law_517 : decode cL_law 517 = .ok (.iload_n 3, 1) := by decide +kernel
theorem dL_law_518 : decode cL_law 518 = .ok (.iconst 2, 1) := by decide +kernel
theorem dL_law_519 : decode cL_law 519 = .ok (.iadd, 1) := by decide +kernel
theorem dL_law_520 : decode cL_law 520 = .ok (.iaload, 1) := by decide +kernel
theorem dL_law_521 : decode cL_law 521 = .ok (.invokevirtual 73, 3) := by decide +kernel
theorem dL_law_524 : decode cL_law 524 = .ok (.aload_n 2, 1) := by decide +kernel
theorem dL_law_525 : decode cL_law 525 = .ok (.aload_n 0, 1) := by decide +kernel
theorem dL_law_526 : decode cL_law 526 = .ok (.iload_n 3, 1) := by decide +kernel
theorem dL_law_527 : decode cL_law 527 = .ok (.iconst 1, 1) := by decide +kernel
theorem dL_law_528 : decode cL_law 528 = .ok (.iadd, 1) := by decide +kernel
theorem dL_law_529 : decode cL_law 529 = .ok (.iaload, 1) := by decide +kernel
theorem dL_law_530 : decode cL_law 530 = .ok (.aload_n 0, 1) := by decide +kernel
theorem dL_law_531 : decode cL_law 531 = .ok (.iload_n 3, 1) := by decide +kernel
theorem dL_law_532 : decode cL_law 532 = .ok (.iconst 2, 1) := by decide +kernel
theorem dL_law_533 : decode cL_law 533 = .ok (.iadd, 1) := by decide +kernel
theorem dL_law_534 : decode cL_law 534 = .ok (.iaload, 1) := by decide +kernel
theorem dL_law_535 : decode cL_law 535 = .ok (.invokevirtual 76, 3) := by decide +kernel
theorem dL_law_538 : decode cL_law 538 = .ok (.if_icmp .eq 557, 3) := by decide +kernel
theorem dL_law_541 : decode cL_law 541 = .ok (.iconst 0, 1) := by decide +kernel
theorem dL_law_542 : decode cL_law 542 = .ok (.ireturn, 1) := by decide +kernel
theorem dL_law_543 : decode cL_law 543 = .ok (.aload_n 1, 1) := by decide +kernel
theorem dL_law_544 : decode cL_law 544 = .ok (.invokevirtual 77, 3) := by decide +kernel
theorem dL_law_547 : decode cL_law 547 = .ok (.aload_n 2, 1) := by decide +kernel
theorem dL_law_548 : decode cL_law 548 = .ok (.invokevirtual 80, 3) := by decide +kernel
theorem dL_law_551 : decode cL_law 551 = .ok (.if_icmp .eq 544, 3) := by decide +kernel
theorem dL_law_554 : decode cL_law 554 = .ok (.iconst 0, 1) := by decide +kernel
theorem dL_law_555 : decode cL_law 555 = .ok (.ireturn, 1) := by decide +kernel
theorem dL_law_556 : decode cL_law 556 = .ok (.aload_n 1, 1) := by decide +kernel
theorem dL_law_557 : decode cL_law 557 = .ok (.aload_n 0, 1) := by decide +kernel
theorem dL_law_558 : decode cL_law 558 = .ok (.iload_n 3, 1) := by decide +kernel
theorem dL_law_559 : decode cL_law 559 = .ok (.iconst 1, 1) := by decide +kernel
theorem dL_law_560 : decode cL_law 560 = .ok (.iadd, 1) := by decide +kernel
theorem dL_law_561 : decode cL_law 561 = .ok (.iaload, 1) := by decide +kernel
theorem dL_law_562 : decode cL_law 562 = .ok (.aload_n 0, 1) := by decide +kernel
theorem dL_law_563 : decode cL_law 563 = .ok (.iload_n 3, 1) := by decide +kernel
theorem dL_law_564 : decode cL_law 564 = .ok (.iconst 2, 1) := by decide +kernel
theorem dL_law_565 : decode cL_law 565 = .ok (.iadd, 1) := by decide +kernel
theorem dL_law_566 : decode cL_law 566 = .ok (.iaload, 1) := by decide +kernel
theorem dL_law_567 : decode cL_law 567 = .ok (.invokevirtual 81, 3) := by decide +kernel
theorem dL_law_570 : decode cL_law 570 = .ok (.aload_n 2, 1) := by decide +kernel
theorem dL_law_571 : decode cL_law 571 = .ok (.aload_n 0, 1) := by decide +kernel
theorem dL_law_572 : decode cL_law 572 = .ok (.iload_n 3, 1) := by decide +kernel
theorem dL_law_573 : decode cL_law 573 = .ok (.iconst 1, 1) := by decide +kernel
theorem dL_law_574 : decode cL_law 574 = .ok (.iadd, 1) := by decide +kernel
theorem dL_law_575 : decode cL_law 575 = .ok (.iaload, 1) := by decide +kernel
theorem dL_law_576 : decode cL_law 576 = .ok (.aload_n 0, 1) := by decide +kernel
theorem dL_law_577 : decode cL_law 577 = .ok (.iload_n 3, 1) := by decide +kernel
theorem dL_law_578 : decode cL_law 578 = .ok (.iconst 2, 1) := by decide +kernel
theorem dL_law_579 : decode cL_law 579 = .ok (.iadd, 1) := by decide +kernel
theorem dL_law_580 : decode cL_law 580 = .ok (.iaload, 1) := by decide +kernel
theorem dL_law_581 : decode cL_law 581 = .ok (.invokevirtual 84, 3) := by decide +kernel
theorem dL_law_584 : decode cL_law 584 = .ok (.if_icmp .eq 511, 3) := by decide +kernel
theorem dL_law_587 : decode cL_law 587 = .ok (.iconst 0, 1) := by decide +kernel
theorem dL_law_588 : decode cL_law 588 = .ok (.ireturn, 1) := by decide +kernel
theorem dL_law_589 : decode cL_law 589 = .ok (.aload_n 1, 1) := by decide +kernel
theorem dL_law_590 : decode cL_law 590 = .ok (.aload_n 0, 1) := by decide +kernel
theorem dL_law_591 : decode cL_law 591 = .ok (.iload_n 3, 1) := by decide +kernel
theorem dL_law_592 : decode cL_law 592 = .ok (.iconst 1, 1) := by decide +kernel
theorem dL_law_593 : decode cL_law 593 = .ok (.iadd, 1) := by decide +kernel
theorem dL_law_594 : decode cL_law 594 = .ok (.iaload, 1) := by decide +kernel
theorem dL_law_595 : decode cL_law 595 = .ok (.aload_n 0, 1) := by decide +kernel
theorem dL_law_596 : decode cL_law 596 = .ok (.iload_n 3, 1) := by decide +kernel
theorem dL_law_597 : decode cL_law 597 = .ok (.iconst 2, 1) := by decide +kernel
theorem dL_law_598 : decode cL_law 598 = .ok (.iadd, 1) := by decide +kernel
theorem dL_law_599 : decode cL_law 599 = .ok (.iaload, 1) := by decide +kernel
theorem dL_law_600 : decode cL_law 600 = .ok (.invokevirtual 85, 3) := by decide +kernel
theorem dL_law_603 : decode cL_law 603 = .ok (.aload_n 2, 1) := by decide +kernel
theorem dL_law_604 : decode cL_law 604 = .ok (.aload_n 0, 1) := by decide +kernel
theorem dL_law_605 : decode cL_law 605 = .ok (.iload_n 3, 1) := by decide +kernel
theorem dL_law_606 : decode cL_law 606 = .ok (.iconst 1, 1) := by decide +kernel
theorem dL_law_607 : decode cL_law 607 = .ok (.iadd, 1) := by decide +kernel
theorem dL_law_608 : decode cL_law 608 = .ok (.iaload, 1) := by decide +kernel
theorem dL_law_609 : decode cL_law 609 = .ok (.aload_n 0, 1) := by decide +kernel
theorem dL_law_610 : decode cL_law 610 = .ok (.iload_n 3, 1) := by decide +kernel
theorem dL_law_611 : decode cL_law 611 = .ok (.iconst 2, 1) := by decide +kernel
theorem dL_law_612 : decode cL_law 612 = .ok (.iadd, 1) := by decide +kernel
theorem dL_law_613 : decode cL_law 613 = .ok (.iaload, 1) := by decide +kernel
theorem dL_law_614 : decode cL_law 614 = .ok (.invokevirtual 88, 3) := by decide +kernel
theorem dL_law_617 : decode cL_law 617 = .ok (.if_icmp .eq 478, 3) := by decide +kernel
theorem dL_law_620 : decode cL_law 620 = .ok (.iconst 0, 1) := by decide +kernel
theorem dL_law_621 : decode cL_law 621 = .ok (.ireturn, 1) := by decide +kernel
theorem dL_law_622 : decode cL_law 622 = .ok (.aload_n 1, 1) := by decide +kernel
theorem dL_law_623 : decode cL_law 623 = .ok (.aload_n 0, 1) := by decide +kernel
theorem dL_law_624 : decode cL_law 624 = .ok (.iload_n 3, 1) := by decide +kernel
theorem dL_law_625 : decode cL_law 625 = .ok (.iconst 1, 1) := by decide +kernel
theorem dL_law_626 : decode cL_law 626 = .ok (.iadd, 1) := by decide +kernel
theorem dL_law_627 : decode cL_law 627 = .ok (.iaload, 1) := by decide +kernel
theorem dL_law_628 : decode cL_law 628 = .ok (.aload_n 0, 1) := by decide +kernel
theorem dL_law_629 : decode cL_law 629 = .ok (.iload_n 3, 1) := by decide +kernel
theorem dL_law_630 : decode cL_law 630 = .ok (.iconst 2, 1) := by decide +kernel
theorem dL_law_631 : decode cL_law 631 = .ok (.iadd, 1) := by decide +kernel
theorem dL_law_632 : decode cL_law 632 = .ok (.iaload, 1) := by decide +kernel
theorem dL_law_633 : decode cL_law 633 = .ok (.invokevirtual 89, 3) := by decide +kernel
theorem dL_law_636 : decode cL_law 636 = .ok (.aload_n 2, 1) := by decide +kernel
theorem dL_law_637 : decode cL_law 637 = .ok (.aload_n 0, 1) := by decide +kernel
theorem dL_law_638 : decode cL_law 638 = .ok (.iload_n 3, 1) := by decide +kernel
theorem dL_law_639 : decode cL_law 639 = .ok (.iconst 1, 1) := by decide +kernel
theorem dL_law_640 : decode cL_law 640 = .ok (.iadd, 1) := by decide +kernel
theorem dL_law_641 : decode cL_law 641 = .ok (.iaload, 1) := by decide +kernel
theorem dL_law_642 : decode cL_law 642 = .ok (.aload_n 0, 1) := by decide +kernel
theorem dL_law_643 : decode cL_law 643 = .ok (.iload_n 3, 1) := by decide +kernel
theorem dL_law_644 : decode cL_law 644 = .ok (.iconst 2, 1) := by decide +kernel
theorem dL_law_645 : decode cL_law 645 = .ok (.iadd, 1) := by decide +kernel
theorem dL_law_646 : decode cL_law 646 = .ok (.iaload, 1) := by decide +kernel
theorem dL_law_647 : decode cL_law 647 = .ok (.invokevirtual 92, 3) := by decide +kernel
theorem dL_law_650 : decode cL_law 650 = .ok (.if_icmp .eq 445, 3) := by decide +kernel
theorem dL_law_653 : decode cL_law 653 = .ok (.iconst 0, 1) := by decide +kernel
theorem dL_law_654 : decode cL_law 654 = .ok (.ireturn, 1) := by decide +kernel
theorem dL_law_655 : decode cL_law 655 = .ok (.aload_n 1, 1) := by decide +kernel
theorem dL_law_656 : decode cL_law 656 = .ok (.aload_n 0, 1) := by decide +kernel
theorem dL_law_657 : decode cL_law 657 = .ok (.iload_n 3, 1) := by decide +kernel
theorem dL_law_658 : decode cL_law 658 = .ok (.iconst 1, 1) := by decide +kernel
theorem dL_law_659 : decode cL_law 659 = .ok (.iadd, 1) := by decide +kernel
theorem dL_law_660 : decode cL_law 660 = .ok (.iaload, 1) := by decide +kernel
theorem dL_law_661 : decode cL_law 661 = .ok (.aload_n 0, 1) := by decide +kernel
theorem dL_law_662 : decode cL_law 662 = .ok (.iload_n 3, 1) := by decide +kernel
theorem dL_law_663 : decode cL_law 663 = .ok (.iconst 2, 1) := by decide +kernel
theorem dL_law_664 : decode cL_law 664 = .ok (.iadd, 1) := by decide +kernel
theorem dL_law_665 : decode cL_law 665 = .ok (.iaload, 1) := by decide +kernel
theorem dL_law_666 : decode cL_law 666 = .ok (.invokevirtual 93, 3) := by decide +kernel
theorem dL_law_669 : decode cL_law 669 = .ok (.aload_n 2, 1) := by decide +kernel
theorem dL_law_670 : decode cL_law 670 = .ok (.aload_n 0, 1) := by decide +kernel
theorem dL_law_671 : decode cL_law 671 = .ok (.iload_n 3, 1) := by decide +kernel
theorem dL_law_672 : decode cL_law 672 = .ok (.iconst 1, 1) := by decide +kernel
theorem dL_law_673 : decode cL_law 673 = .ok (.iadd, 1) := by decide +kernel
theorem dL_law_674 : decode cL_law 674 = .ok (.iaload, 1) := by decide +kernel
theorem dL_law_675 : decode cL_law 675 = .ok (.aload_n 0, 1) := by decide +kernel
theorem dL_law_676 : decode cL_law 676 = .ok (.iload_n 3, 1) := by decide +kernel
theorem dL_law_677 : decode cL_law 677 = .ok (.iconst 2, 1) := by decide +kernel
theorem dL_law_678 : decode cL_law 678 = .ok (.iadd, 1) := by decide +kernel
theorem dL_law_679 : decode cL_law 679 = .ok (.iaload, 1) := by decide +kernel
theorem dL_law_680 : decode cL_law 680 = .ok (.invokevirtual 96, 3) := by decide +kernel
theorem dL_law_683 : decode cL_law 683 = .ok (.if_icmp .eq 412, 3) := by decide +kernel
theorem dL_law_686 : decode cL_law 686 = .ok (.iconst 0, 1) := by decide +kernel
theorem dL_law_687 : decode cL_law 687 = .ok (.ireturn, 1) := by decide +kernel
theorem dL_law_688 : decode cL_law 688 = .ok (.aload_n 1, 1) := by decide +kernel
theorem dL_law_689 : decode cL_law 689 = .ok (.aload_n 0, 1) := by decide +kernel
theorem dL_law_690 : decode cL_law 690 = .ok (.iload_n 3, 1) := by decide +kernel
theorem dL_law_691 : decode cL_law 691 = .ok (.iconst 1, 1) := by decide +kernel
theorem dL_law_692 : decode cL_law 692 = .ok (.iadd, 1) := by decide +kernel
theorem dL_law_693 : decode cL_law 693 = .ok (.iaload, 1) := by decide +kernel
theorem dL_law_694 : decode cL_law 694 = .ok (.invokevirtual 97, 3) := by decide +kernel
theorem dL_law_697 : decode cL_law 697 = .ok (.aload_n 2, 1) := by decide +kernel
theorem dL_law_698 : decode cL_law 698 = .ok (.aload_n 0, 1) := by decide +kernel
theorem dL_law_699 : decode cL_law 699 = .ok (.iload_n 3, 1) := by decide +kernel
theorem dL_law_700 : decode cL_law 700 = .ok (.iconst 1, 1) := by decide +kernel
theorem dL_law_701 : decode cL_law 701 = .ok (.iadd, 1) := by decide +kernel
theorem dL_law_702 : decode cL_law 702 = .ok (.iaload, 1) := by decide +kernel
theorem dL_law_703 : decode cL_law 703 = .ok (.invokevirtual 100, 3) := by decide +kernel
theorem dL_law_706 : decode cL_law 706 = .ok (.if_icmp .eq 389, 3) := by decide +kernel
theorem dL_law_709 : decode cL_law 709 = .ok (.iconst 0, 1) := by decide +kernel
theorem dL_law_710 : decode cL_law 710 = .ok (.ireturn, 1) := by decide +kernel
theorem dL_law_711 : decode cL_law 711 = .ok (.aload_n 1, 1) := by decide +kernel
theorem dL_law_712 : decode cL_law 712 = .ok (.invokevirtual 101, 3) := by decide +kernel
theorem dL_law_715 : decode cL_law 715 = .ok (.aload_n 2, 1) := by decide +kernel
theorem dL_law_716 : decode cL_law 716 = .ok (.invokevirtual 104, 3) := by decide +kernel
theorem dL_law_719 : decode cL_law 719 = .ok (.if_icmp .eq 376, 3) := by decide +kernel
theorem dL_law_722 : decode cL_law 722 = .ok (.iconst 0, 1) := by decide +kernel
theorem dL_law_723 : decode cL_law 723 = .ok (.ireturn, 1) := by decide +kernel
theorem dL_law_724 : decode cL_law 724 = .ok (.aload_n 1, 1) := by decide +kernel
theorem dL_law_725 : decode cL_law 725 = .ok (.aload_n 0, 1) := by decide +kernel
theorem dL_law_726 : decode cL_law 726 = .ok (.iload_n 3, 1) := by decide +kernel
theorem dL_law_727 : decode cL_law 727 = .ok (.iconst 1, 1) := by decide +kernel
theorem dL_law_728 : decode cL_law 728 = .ok (.iadd, 1) := by decide +kernel
theorem dL_law_729 : decode cL_law 729 = .ok (.iaload, 1) := by decide +kernel
theorem dL_law_730 : decode cL_law 730 = .ok (.aload_n 0, 1) := by decide +kernel
theorem dL_law_731 : decode cL_law 731 = .ok (.iload_n 3, 1) := by decide +kernel
theorem dL_law_732 : decode cL_law 732 = .ok (.iconst 2, 1) := by decide +kernel
theorem dL_law_733 : decode cL_law 733 = .ok (.iadd, 1) := by decide +kernel
theorem dL_law_734 : decode cL_law 734 = .ok (.iaload, 1) := by decide +kernel
theorem dL_law_735 : decode cL_law 735 = .ok (.invokevirtual 105, 3) := by decide +kernel
theorem dL_law_738 : decode cL_law 738 = .ok (.aload_n 2, 1) := by decide +kernel
theorem dL_law_739 : decode cL_law 739 = .ok (.aload_n 0, 1) := by decide +kernel
theorem dL_law_740 : decode cL_law 740 = .ok (.iload_n 3, 1) := by decide +kernel
theorem dL_law_741 : decode cL_law 741 = .ok (.iconst 1, 1) := by decide +kernel
theorem dL_law_742 : decode cL_law 742 = .ok (.iadd, 1) := by decide +kernel
theorem dL_law_743 : decode cL_law 743 = .ok (.iaload, 1) := by decide +kernel
theorem dL_law_744 : decode cL_law 744 = .ok (.aload_n 0, 1) := by decide +kernel
theorem dL_law_745 : decode cL_law 745 = .ok (.iload_n 3, 1) := by decide +kernel
theorem dL_law_746 : decode cL_law 746 = .ok (.iconst 2, 1) := by decide +kernel
theorem dL_law_747 : decode cL_law 747 = .ok (.iadd, 1) := by decide +kernel
theorem dL_law_748 : decode cL_law 748 = .ok (.iaload, 1) := by decide +kernel
theorem dL_law_749 : decode cL_law 749 = .ok (.invokevirtual 108, 3) := by decide +kernel
theorem dL_law_752 : decode cL_law 752 = .ok (.if_icmp .eq 343, 3) := by decide +kernel
theorem dL_law_755 : decode cL_law 755 = .ok (.iconst 0, 1) := by decide +kernel
theorem dL_law_756 : decode cL_law 756 = .ok (.ireturn, 1) := by decide +kernel
theorem dL_law_757 : decode cL_law 757 = .ok (.aload_n 1, 1) := by decide +kernel
theorem dL_law_758 : decode cL_law 758 = .ok (.aload_n 0, 1) := by decide +kernel
theorem dL_law_759 : decode cL_law 759 = .ok (.iload_n 3, 1) := by decide +kernel
theorem dL_law_760 : decode cL_law 760 = .ok (.iconst 1, 1) := by decide +kernel
theorem dL_law_761 : decode cL_law 761 = .ok (.iadd, 1) := by decide +kernel
theorem dL_law_762 : decode cL_law 762 = .ok (.iaload, 1) := by decide +kernel
theorem dL_law_763 : decode cL_law 763 = .ok (.aload_n 0, 1) := by decide +kernel
theorem dL_law_764 : decode cL_law 764 = .ok (.iload_n 3, 1) := by decide +kernel
theorem dL_law_765 : decode cL_law 765 = .ok (.iconst 2, 1) := by decide +kernel
theorem dL_law_766 : decode cL_law 766 = .ok (.iadd, 1) := by decide +kernel
theorem dL_law_767 : decode cL_law 767 = .ok (.iaload, 1) := by decide +kernel
theorem dL_law_768 : decode cL_law 768 = .ok (.aload_n 0, 1) := by decide +kernel
theorem dL_law_769 : decode cL_law 769 = .ok (.iload_n 3, 1) := by decide +kernel
theorem dL_law_770 : decode cL_law 770 = .ok (.iconst 3, 1) := by decide +kernel
theorem dL_law_771 : decode cL_law 771 = .ok (.iadd, 1) := by decide +kernel
theorem dL_law_772 : decode cL_law 772 = .ok (.iaload, 1) := by decide +kernel
theorem dL_law_773 : decode cL_law 773 = .ok (.aload_n 0, 1) := by decide +kernel
theorem dL_law_774 : decode cL_law 774 = .ok (.iload_n 3, 1) := by decide +kernel
theorem dL_law_775 : decode cL_law 775 = .ok (.iconst 4, 1) := by decide +kernel
theorem dL_law_776 : decode cL_law 776 = .ok (.iadd, 1) := by decide +kernel
theorem dL_law_777 : decode cL_law 777 = .ok (.iaload, 1) := by decide +kernel
theorem dL_law_778 : decode cL_law 778 = .ok (.invokevirtual 109, 3) := by decide +kernel
theorem dL_law_781 : decode cL_law 781 = .ok (.aload_n 2, 1) := by decide +kernel
theorem dL_law_782 : decode cL_law 782 = .ok (.aload_n 0, 1) := by decide +kernel
theorem dL_law_783 : decode cL_law 783 = .ok (.iload_n 3, 1) := by decide +kernel
theorem dL_law_784 : decode cL_law 784 = .ok (.iconst 1, 1) := by decide +kernel
theorem dL_law_785 : decode cL_law 785 = .ok (.iadd, 1) := by decide +kernel
theorem dL_law_786 : decode cL_law 786 = .ok (.iaload, 1) := by decide +kernel
theorem dL_law_787 : decode cL_law 787 = .ok (.aload_n 0, 1) := by decide +kernel
theorem dL_law_788 : decode cL_law 788 = .ok (.iload_n 3, 1) := by decide +kernel
theorem dL_law_789 : decode cL_law 789 = .ok (.iconst 2, 1) := by decide +kernel
theorem dL_law_790 : decode cL_law 790 = .ok (.iadd, 1) := by decide +kernel
theorem dL_law_791 : decode cL_law 791 = .ok (.iaload, 1) := by decide +kernel
theorem dL_law_792 : decode cL_law 792 = .ok (.aload_n 0, 1) := by decide +kernel
theorem dL_law_793 : decode cL_law 793 = .ok (.iload_n 3, 1) := by decide +kernel
theorem dL_law_794 : decode cL_law 794 = .ok (.iconst 3, 1) := by decide +kernel
theorem dL_law_795 : decode cL_law 795 = .ok (.iadd, 1) := by decide +kernel
theorem dL_law_796 : decode cL_law 796 = .ok (.iaload, 1) := by decide +kernel
theorem dL_law_797 : decode cL_law 797 = .ok (.aload_n 0, 1) := by decide +kernel
theorem dL_law_798 : decode cL_law 798 = .ok (.iload_n 3, 1) := by decide +kernel
theorem dL_law_799 : decode cL_law 799 = .ok (.iconst 4, 1) := by decide +kernel
theorem dL_law_800 : decode cL_law 800 = .ok (.iadd, 1) := by decide +kernel
theorem dL_law_801 : decode cL_law 801 = .ok (.iaload, 1) := by decide +kernel
theorem dL_law_802 : decode cL_law 802 = .ok (.invokevirtual 113, 3) := by decide +kernel
theorem dL_law_805 : decode cL_law 805 = .ok (.if_icmp .eq 290, 3) := by decide +kernel
theorem dL_law_808 : decode cL_law 808 = .ok (.iconst 0, 1) := by decide +kernel
theorem dL_law_809 : decode cL_law 809 = .ok (.ireturn, 1) := by decide +kernel
theorem dL_law_810 : decode cL_law 810 = .ok (.aload_n 1, 1) := by decide +kernel
theorem dL_law_811 : decode cL_law 811 = .ok (.aload_n 0, 1) := by decide +kernel
theorem dL_law_812 : decode cL_law 812 = .ok (.iload_n 3, 1) := by decide +kernel
theorem dL_law_813 : decode cL_law 813 = .ok (.iconst 1, 1) := by decide +kernel
theorem dL_law_814 : decode cL_law 814 = .ok (.iadd, 1) := by decide +kernel
theorem dL_law_815 : decode cL_law 815 = .ok (.iaload, 1) := by decide +kernel
theorem dL_law_816 : decode cL_law 816 = .ok (.invokevirtual 114, 3) := by decide +kernel
theorem dL_law_819 : decode cL_law 819 = .ok (.aload_n 2, 1) := by decide +kernel
theorem dL_law_820 : decode cL_law 820 = .ok (.aload_n 0, 1) := by decide +kernel
theorem dL_law_821 : decode cL_law 821 = .ok (.iload_n 3, 1) := by decide +kernel
theorem dL_law_822 : decode cL_law 822 = .ok (.iconst 1, 1) := by decide +kernel
theorem dL_law_823 : decode cL_law 823 = .ok (.iadd, 1) := by decide +kernel
theorem dL_law_824 : decode cL_law 824 = .ok (.iaload, 1) := by decide +kernel
theorem dL_law_825 : decode cL_law 825 = .ok (.invokevirtual 117, 3) := by decide +kernel
theorem dL_law_828 : decode cL_law 828 = .ok (.if_icmp .eq 267, 3) := by decide +kernel
theorem dL_law_831 : decode cL_law 831 = .ok (.iconst 0, 1) := by decide +kernel
theorem dL_law_832 : decode cL_law 832 = .ok (.ireturn, 1) := by decide +kernel
theorem dL_law_833 : decode cL_law 833 = .ok (.aload_n 1, 1) := by decide +kernel
theorem dL_law_834 : decode cL_law 834 = .ok (.aload_n 0, 1) := by decide +kernel
theorem dL_law_835 : decode cL_law 835 = .ok (.iload_n 3, 1) := by decide +kernel
theorem dL_law_836 : decode cL_law 836 = .ok (.iconst 1, 1) := by decide +kernel
theorem dL_law_837 : decode cL_law 837 = .ok (.iadd, 1) := by decide +kernel
theorem dL_law_838 : decode cL_law 838 = .ok (.iaload, 1) := by decide +kernel
theorem dL_law_839 : decode cL_law 839 = .ok (.aload_n 0, 1) := by decide +kernel
theorem dL_law_840 : decode cL_law 840 = .ok (.iload_n 3, 1) := by decide +kernel
theorem dL_law_841 : decode cL_law 841 = .ok (.iconst 2, 1) := by decide +kernel
theorem dL_law_842 : decode cL_law 842 = .ok (.iadd, 1) := by decide +kernel
theorem dL_law_843 : decode cL_law 843 = .ok (.iaload, 1) := by decide +kernel
theorem dL_law_844 : decode cL_law 844 = .ok (.invokevirtual 118, 3) := by decide +kernel
theorem dL_law_847 : decode cL_law 847 = .ok (.aload_n 2, 1) := by decide +kernel
theorem dL_law_848 : decode cL_law 848 = .ok (.aload_n 0, 1) := by decide +kernel
theorem dL_law_849 : decode cL_law 849 = .ok (.iload_n 3, 1) := by decide +kernel
theorem dL_law_850 : decode cL_law 850 = .ok (.iconst 1, 1) := by decide +kernel
theorem dL_law_851 : decode cL_law 851 = .ok (.iadd, 1) := by decide +kernel
theorem dL_law_852 : decode cL_law 852 = .ok (.iaload, 1) := by decide +kernel
theorem dL_law_853 : decode cL_law 853 = .ok (.aload_n 0, 1) := by decide +kernel
theorem dL_law_854 : decode cL_law 854 = .ok (.iload_n 3, 1) := by decide +kernel
theorem dL_law_855 : decode cL_law 855 = .ok (.iconst 2, 1) := by decide +kernel
theorem dL_law_856 : decode cL_law 856 = .ok (.iadd, 1) := by decide +kernel
theorem dL_law_857 : decode cL_law 857 = .ok (.iaload, 1) := by decide +kernel
theorem dL_law_858 : decode cL_law 858 = .ok (.invokevirtual 121, 3) := by decide +kernel
theorem dL_law_861 : decode cL_law 861 = .ok (.if_icmp .eq 234, 3) := by decide +kernel
theorem dL_law_864 : decode cL_law 864 = .ok (.iconst 0, 1) := by decide +kernel
theorem dL_law_865 : decode cL_law 865 = .ok (.ireturn, 1) := by decide +kernel
theorem dL_law_866 : decode cL_law 866 = .ok (.aload_n 1, 1) := by decide +kernel
theorem dL_law_867 : decode cL_law 867 = .ok (.aload_n 0, 1) := by decide +kernel
theorem dL_law_868 : decode cL_law 868 = .ok (.iload_n 3, 1) := by decide +kernel
theorem dL_law_869 : decode cL_law 869 = .ok (.iconst 1, 1) := by decide +kernel
theorem dL_law_870 : decode cL_law 870 = .ok (.iadd, 1) := by decide +kernel
theorem dL_law_871 : decode cL_law 871 = .ok (.iaload, 1) := by decide +kernel
theorem dL_law_872 : decode cL_law 872 = .ok (.invokevirtual 122, 3) := by decide +kernel
theorem dL_law_875 : decode cL_law 875 = .ok (.aload_n 2, 1) := by decide +kernel
theorem dL_law_876 : decode cL_law 876 = .ok (.aload_n 0, 1) := by decide +kernel
theorem dL_law_877 : decode cL_law 877 = .ok (.iload_n 3, 1) := by decide +kernel
theorem dL_law_878 : decode cL_law 878 = .ok (.iconst 1, 1) := by decide +kernel
theorem dL_law_879 : decode cL_law 879 = .ok (.iadd, 1) := by decide +kernel
theorem dL_law_880 : decode cL_law 880 = .ok (.iaload, 1) := by decide +kernel
theorem dL_law_881 : decode cL_law 881 = .ok (.invokevirtual 125, 3) := by decide +kernel
theorem dL_law_884 : decode cL_law 884 = .ok (.if_icmp .eq 211, 3) := by decide +kernel
theorem dL_law_887 : decode cL_law 887 = .ok (.iconst 0, 1) := by decide +kernel
theorem dL_law_888 : decode cL_law 888 = .ok (.ireturn, 1) := by decide +kernel
theorem dL_law_889 : decode cL_law 889 = .ok (.aload_n 1, 1) := by decide +kernel
theorem dL_law_890 : decode cL_law 890 = .ok (.aload_n 0, 1) := by decide +kernel
theorem dL_law_891 : decode cL_law 891 = .ok (.iload_n 3, 1) := by decide +kernel
theorem dL_law_892 : decode cL_law 892 = .ok (.iconst 1, 1) := by decide +kernel
theorem dL_law_893 : decode cL_law 893 = .ok (.iadd, 1) := by decide +kernel
theorem dL_law_894 : decode cL_law 894 = .ok (.iaload, 1) := by decide +kernel
theorem dL_law_895 : decode cL_law 895 = .ok (.aload_n 0, 1) := by decide +kernel
theorem dL_law_896 : decode cL_law 896 = .ok (.iload_n 3, 1) := by decide +kernel
theorem dL_law_897 : decode cL_law 897 = .ok (.iconst 2, 1) := by decide +kernel
theorem dL_law_898 : decode cL_law 898 = .ok (.iadd, 1) := by decide +kernel
theorem dL_law_899 : decode cL_law 899 = .ok (.iaload, 1) := by decide +kernel
theorem dL_law_900 : decode cL_law 900 = .ok (.aload_n 0, 1) := by decide +kernel
theorem dL_law_901 : decode cL_law 901 = .ok (.iload_n 3, 1) := by decide +kernel
theorem dL_law_902 : decode cL_law 902 = .ok (.iconst 3, 1) := by decide +kernel
theorem dL_law_903 : decode cL_law 903 = .ok (.iadd, 1) := by decide +kernel
theorem dL_law_904 : decode cL_law 904 = .ok (.iaload, 1) := by decide +kernel
theorem dL_law_905 : decode cL_law 905 = .ok (.invokevirtual 126, 3) := by decide +kernel
theorem dL_law_908 : decode cL_law 908 = .ok (.aload_n 2, 1) := by decide +kernel
theorem dL_law_909 : decode cL_law 909 = .ok (.aload_n 0, 1) := by decide +kernel
theorem dL_law_910 : decode cL_law 910 = .ok (.iload_n 3, 1) := by decide +kernel
theorem dL_law_911 : decode cL_law 911 = .ok (.iconst 1, 1) := by decide +kernel
theorem dL_law_912 : decode cL_law 912 = .ok (.iadd, 1) := by decide +kernel
theorem dL_law_913 : decode cL_law 913 = .ok (.iaload, 1) := by decide +kernel
theorem dL_law_914 : decode cL_law 914 = .ok (.aload_n 0, 1) := by decide +kernel
theorem dL_law_915 : decode cL_law 915 = .ok (.iload_n 3, 1) := by decide +kernel
theorem dL_law_916 : decode cL_law 916 = .ok (.iconst 2, 1) := by decide +kernel
theorem dL_law_917 : decode cL_law 917 = .ok (.iadd, 1) := by decide +kernel
theorem dL_law_918 : decode cL_law 918 = .ok (.iaload, 1) := by decide +kernel
theorem dL_law_919 : decode cL_law 919 = .ok (.aload_n 0, 1) := by decide +kernel
theorem dL_law_920 : decode cL_law 920 = .ok (.iload_n 3, 1) := by decide +kernel
theorem dL_law_921 : decode cL_law 921 = .ok (.iconst 3, 1) := by decide +kernel
theorem dL_law_922 : decode cL_law 922 = .ok (.iadd, 1) := by decide +kernel
theorem dL_law_923 : decode cL_law 923 = .ok (.iaload, 1) := by decide +kernel
theorem dL_law_924 : decode cL_law 924 = .ok (.invokevirtual 129, 3) := by decide +kernel
theorem dL_law_927 : decode cL_law 927 = .ok (.if_icmp .eq 168, 3) := by decide +kernel
theorem dL_law_930 : decode cL_law 930 = .ok (.iconst 0, 1) := by decide +kernel
theorem dL_law_931 : decode cL_law 931 = .ok (.ireturn, 1) := by decide +kernel
theorem dL_law_932 : decode cL_law 932 = .ok (.aload_n 1, 1) := by decide +kernel
theorem dL_law_933 : decode cL_law 933 = .ok (.aload_n 0, 1) := by decide +kernel
theorem dL_law_934 : decode cL_law 934 = .ok (.iload_n 3, 1) := by decide +kernel
theorem dL_law_935 : decode cL_law 935 = .ok (.iconst 1, 1) := by decide +kernel
theorem dL_law_936 : decode cL_law 936 = .ok (.iadd, 1) := by decide +kernel
theorem dL_law_937 : decode cL_law 937 = .ok (.iaload, 1) := by decide +kernel
theorem dL_law_938 : decode cL_law 938 = .ok (.aload_n 0, 1) := by decide +kernel
theorem dL_law_939 : decode cL_law 939 = .ok (.iload_n 3, 1) := by decide +kernel
theorem dL_law_940 : decode cL_law 940 = .ok (.iconst 2, 1) := by decide +kernel
theorem dL_law_941 : decode cL_law 941 = .ok (.iadd, 1) := by decide +kernel
theorem dL_law_942 : decode cL_law 942 = .ok (.iaload, 1) := by decide +kernel
theorem dL_law_943 : decode cL_law 943 = .ok (.invokevirtual 130, 3) := by decide +kernel
theorem dL_law_946 : decode cL_law 946 = .ok (.aload_n 2, 1) := by decide +kernel
theorem dL_law_947 : decode cL_law 947 = .ok (.aload_n 0, 1) := by decide +kernel
theorem dL_law_948 : decode cL_law 948 = .ok (.iload_n 3, 1) := by decide +kernel
theorem dL_law_949 : decode cL_law 949 = .ok (.iconst 1, 1) := by decide +kernel
theorem dL_law_950 : decode cL_law 950 = .ok (.iadd, 1) := by decide +kernel
theorem dL_law_951 : decode cL_law 951 = .ok (.iaload, 1) := by decide +kernel
theorem dL_law_952 : decode cL_law 952 = .ok (.aload_n 0, 1) := by decide +kernel
theorem dL_law_953 : decode cL_law 953 = .ok (.iload_n 3, 1) := by decide +kernel
theorem dL_law_954 : decode cL_law 954 = .ok (.iconst 2, 1) := by decide +kernel
theorem dL_law_955 : decode cL_law 955 = .ok (.iadd, 1) := by decide +kernel
theorem dL_law_956 : decode cL_law 956 = .ok (.iaload, 1) := by decide +kernel
theorem dL_law_957 : decode cL_law 957 = .ok (.invokevirtual 133, 3) := by decide +kernel
theorem dL_law_960 : decode cL_law 960 = .ok (.if_icmp .eq 135, 3) := by decide +kernel
theorem dL_law_963 : decode cL_law 963 = .ok (.iconst 0, 1) := by decide +kernel
theorem dL_law_964 : decode cL_law 964 = .ok (.ireturn, 1) := by decide +kernel
theorem dL_law_965 : decode cL_law 965 = .ok (.aload_n 1, 1) := by decide +kernel
theorem dL_law_966 : decode cL_law 966 = .ok (.aload_n 0, 1) := by decide +kernel
theorem dL_law_967 : decode cL_law 967 = .ok (.iload_n 3, 1) := by decide +kernel
theorem dL_law_968 : decode cL_law 968 = .ok (.iconst 1, 1) := by decide +kernel
theorem dL_law_969 : decode cL_law 969 = .ok (.iadd, 1) := by decide +kernel
theorem dL_law_970 : decode cL_law 970 = .ok (.iaload, 1) := by decide +kernel
theorem dL_law_971 : decode cL_law 971 = .ok (.invokevirtual 134, 3) := by decide +kernel
theorem dL_law_974 : decode cL_law 974 = .ok (.aload_n 2, 1) := by decide +kernel
theorem dL_law_975 : decode cL_law 975 = .ok (.aload_n 0, 1) := by decide +kernel
theorem dL_law_976 : decode cL_law 976 = .ok (.iload_n 3, 1) := by decide +kernel
theorem dL_law_977 : decode cL_law 977 = .ok (.iconst 1, 1) := by decide +kernel
theorem dL_law_978 : decode cL_law 978 = .ok (.iadd, 1) := by decide +kernel
theorem dL_law_979 : decode cL_law 979 = .ok (.iaload, 1) := by decide +kernel
theorem dL_law_980 : decode cL_law 980 = .ok (.invokevirtual 138, 3) := by decide +kernel
theorem dL_law_983 : decode cL_law 983 = .ok (.lcmp, 1) := by decide +kernel
theorem dL_law_984 : decode cL_law 984 = .ok (.ifCond .eq 111, 3) := by decide +kernel
theorem dL_law_987 : decode cL_law 987 = .ok (.iconst 0, 1) := by decide +kernel
theorem dL_law_988 : decode cL_law 988 = .ok (.ireturn, 1) := by decide +kernel
theorem dL_law_989 : decode cL_law 989 = .ok (.aload_n 1, 1) := by decide +kernel
theorem dL_law_990 : decode cL_law 990 = .ok (.aload_n 0, 1) := by decide +kernel
theorem dL_law_991 : decode cL_law 991 = .ok (.iload_n 3, 1) := by decide +kernel
theorem dL_law_992 : decode cL_law 992 = .ok (.iconst 1, 1) := by decide +kernel
theorem dL_law_993 : decode cL_law 993 = .ok (.iadd, 1) := by decide +kernel
theorem dL_law_994 : decode cL_law 994 = .ok (.iaload, 1) := by decide +kernel
theorem dL_law_995 : decode cL_law 995 = .ok (.invokevirtual 139, 3) := by decide +kernel
theorem dL_law_998 : decode cL_law 998 = .ok (.aload_n 2, 1) := by decide +kernel
theorem dL_law_999 : decode cL_law 999 = .ok (.aload_n 0, 1) := by decide +kernel
theorem dL_law_1000 : decode cL_law 1000 = .ok (.iload_n 3, 1) := by decide +kernel
theorem dL_law_1001 : decode cL_law 1001 = .ok (.iconst 1, 1) := by decide +kernel
theorem dL_law_1002 : decode cL_law 1002 = .ok (.iadd, 1) := by decide +kernel
theorem dL_law_1003 : decode cL_law 1003 = .ok (.iaload, 1) := by decide +kernel
theorem dL_law_1004 : decode cL_law 1004 = .ok (.invokevirtual 142, 3) := by decide +kernel
theorem dL_law_1007 : decode cL_law 1007 = .ok (.if_icmp .eq 88, 3) := by decide +kernel
theorem dL_law_1010 : decode cL_law 1010 = .ok (.iconst 0, 1) := by decide +kernel
theorem dL_law_1011 : decode cL_law 1011 = .ok (.ireturn, 1) := by decide +kernel
theorem dL_law_1012 : decode cL_law 1012 = .ok (.aload_n 1, 1) := by decide +kernel
theorem dL_law_1013 : decode cL_law 1013 = .ok (.aload_n 0, 1) := by decide +kernel
theorem dL_law_1014 : decode cL_law 1014 = .ok (.iload_n 3, 1) := by decide +kernel
theorem dL_law_1015 : decode cL_law 1015 = .ok (.iconst 1, 1) := by decide +kernel
theorem dL_law_1016 : decode cL_law 1016 = .ok (.iadd, 1) := by decide +kernel
theorem dL_law_1017 : decode cL_law 1017 = .ok (.iaload, 1) := by decide +kernel
theorem dL_law_1018 : decode cL_law 1018 = .ok (.invokevirtual 143, 3) := by decide +kernel
theorem dL_law_1021 : decode cL_law 1021 = .ok (.aload_n 2, 1) := by decide +kernel
theorem dL_law_1022 : decode cL_law 1022 = .ok (.aload_n 0, 1) := by decide +kernel
theorem dL_law_1023 : decode cL_law 1023 = .ok (.iload_n 3, 1) := by decide +kernel
theorem dL_law_1024 : decode cL_law 1024 = .ok (.iconst 1, 1) := by decide +kernel
theorem dL_law_1025 : decode cL_law 1025 = .ok (.iadd, 1) := by decide +kernel
theorem dL_law_1026 : decode cL_law 1026 = .ok (.iaload, 1) := by decide +kernel
theorem dL_law_1027 : decode cL_law 1027 = .ok (.invokevirtual 146, 3) := by decide +kernel
theorem dL_law_1030 : decode cL_law 1030 = .ok (.if_icmp .eq 65, 3) := by decide +kernel
theorem dL_law_1033 : decode cL_law 1033 = .ok (.iconst 0, 1) := by decide +kernel
theorem dL_law_1034 : decode cL_law 1034 = .ok (.ireturn, 1) := by decide +kernel
theorem dL_law_1035 : decode cL_law 1035 = .ok (.aload_n 1, 1) := by decide +kernel
theorem dL_law_1036 : decode cL_law 1036 = .ok (.aload_n 0, 1) := by decide +kernel
theorem dL_law_1037 : decode cL_law 1037 = .ok (.iload_n 3, 1) := by decide +kernel
theorem dL_law_1038 : decode cL_law 1038 = .ok (.iconst 1, 1) := by decide +kernel
theorem dL_law_1039 : decode cL_law 1039 = .ok (.iadd, 1) := by decide +kernel
theorem dL_law_1040 : decode cL_law 1040 = .ok (.iaload, 1) := by decide +kernel
theorem dL_law_1041 : decode cL_law 1041 = .ok (.invokevirtual 147, 3) := by decide +kernel
theorem dL_law_1044 : decode cL_law 1044 = .ok (.aload_n 2, 1) := by decide +kernel
theorem dL_law_1045 : decode cL_law 1045 = .ok (.aload_n 0, 1) := by decide +kernel
theorem dL_law_1046 : decode cL_law 1046 = .ok (.iload_n 3, 1) := by decide +kernel
theorem dL_law_1047 : decode cL_law 1047 = .ok (.iconst 1, 1) := by decide +kernel
theorem dL_law_1048 : decode cL_law 1048 = .ok (.iadd, 1) := by decide +kernel
theorem dL_law_1049 : decode cL_law 1049 = .ok (.iaload, 1) := by decide +kernel
theorem dL_law_1050 : decode cL_law 1050 = .ok (.invokevirtual 150, 3) := by decide +kernel
theorem dL_law_1053 : decode cL_law 1053 = .ok (.if_icmp .eq 42, 3) := by decide +kernel
theorem dL_law_1056 : decode cL_law 1056 = .ok (.iconst 0, 1) := by decide +kernel
theorem dL_law_1057 : decode cL_law 1057 = .ok (.ireturn, 1) := by decide +kernel
theorem dL_law_1058 : decode cL_law 1058 = .ok (.aload_n 1, 1) := by decide +kernel
theorem dL_law_1059 : decode cL_law 1059 = .ok (.aload_n 0, 1) := by decide +kernel
theorem dL_law_1060 : decode cL_law 1060 = .ok (.iload_n 3, 1) := by decide +kernel
theorem dL_law_1061 : decode cL_law 1061 = .ok (.iconst 1, 1) := by decide +kernel
theorem dL_law_1062 : decode cL_law 1062 = .ok (.iadd, 1) := by decide +kernel
theorem dL_law_1063 : decode cL_law 1063 = .ok (.iaload, 1) := by decide +kernel
theorem dL_law_1064 : decode cL_law 1064 = .ok (.invokevirtual 151, 3) := by decide +kernel
theorem dL_law_1067 : decode cL_law 1067 = .ok (.aload_n 2, 1) := by decide +kernel
theorem dL_law_1068 : decode cL_law 1068 = .ok (.aload_n 0, 1) := by decide +kernel
theorem dL_law_1069 : decode cL_law 1069 = .ok (.iload_n 3, 1) := by decide +kernel
theorem dL_law_1070 : decode cL_law 1070 = .ok (.iconst 1, 1) := by decide +kernel
theorem dL_law_1071 : decode cL_law 1071 = .ok (.iadd, 1) := by decide +kernel
theorem dL_law_1072 : decode cL_law 1072 = .ok (.iaload, 1) := by decide +kernel
theorem dL_law_1073 : decode cL_law 1073 = .ok (.invokevirtual 154, 3) := by decide +kernel
theorem dL_law_1076 : decode cL_law 1076 = .ok (.if_icmp .eq 19, 3) := by decide +kernel
theorem dL_law_1079 : decode cL_law 1079 = .ok (.iconst 0, 1) := by decide +kernel
theorem dL_law_1080 : decode cL_law 1080 = .ok (.ireturn, 1) := by decide +kernel
theorem dL_law_1081 : decode cL_law 1081 = .ok (.aload_n 1, 1) := by decide +kernel
theorem dL_law_1082 : decode cL_law 1082 = .ok (.invokevirtual 155, 3) := by decide +kernel
theorem dL_law_1085 : decode cL_law 1085 = .ok (.aload_n 2, 1) := by decide +kernel
theorem dL_law_1086 : decode cL_law 1086 = .ok (.invokevirtual 159, 3) := by decide +kernel
theorem dL_law_1089 : decode cL_law 1089 = .ok (.lcmp, 1) := by decide +kernel
theorem dL_law_1090 : decode cL_law 1090 = .ok (.ifCond .eq 5, 3) := by decide +kernel
theorem dL_law_1093 : decode cL_law 1093 = .ok (.iconst 0, 1) := by decide +kernel
theorem dL_law_1094 : decode cL_law 1094 = .ok (.ireturn, 1) := by decide +kernel
theorem dL_law_1095 : decode cL_law 1095 = .ok (.iinc 3 5, 3) := by decide +kernel
theorem dL_law_1098 : decode cL_law 1098 = .ok (.goto (-1080), 3) := by decide +kernel
theorem dL_law_1101 : decode cL_law 1101 = .ok (.iconst 1, 1) := by decide +kernel
theorem dL_law_1102 : decode cL_law 1102 = .ok (.ireturn, 1) := by decide +kernel
set_option maxRecDepth 100000 in
set_option maxHeartbeats 40000000 in
theorem law_walk {X : Xt} {b L : Nat} {sx : Nat → Int32} (hX : va_X b L sx (xs X) (xs X).heap) (hbl : b < (xs X).heap.size) (hbA : ¬ gA (xg X) b) (C : Ok X RL cL_law 4 11 390 600000 7302250) (hRm : xR X = room_1) (hxa : xa X = #[Value.ref b]) (hr : (xme X).sig.returnType = ret) (hlocks : (xme X).locks = false) (hA0 : gB (xg X) = (xs X).heap.size) (w0 wz : Wd) (hf : f_L L sx w0 = some (1, wz)) : Wk X 0 0 (lw_Z (xb X) #[Value.ref b] (xs X)) w0 [(0, .ref b)] 0 [] := by
  have t_18 : ∀ (n : Nat) (v1 : Nat) (v2 : Nat) (v3 : Int32) (w : Wd), f_L_18 L sx n v1 v2 v3 w = some (1, wz) → Wk X 107 2912 (lw_Z (xb X) #[Value.ref b] (xs X)) w [(0, .ref b), (1, rV (xg X) v1), (2, rV (xg X) v2), (3, .int v3)] 18 [] := by
    intro n
    induction n with
    | zero => intro v1 v2 v3 w hf; rw [f_L_18] at hf; cases hf
    | succ n18 ih18 =>
      have t_1095 : ∀ (v1 : Nat) (v2 : Nat) (v3 : Int32) (w : Wd), f_L_1095 L sx (f_L_18 L sx n18) v1 v2 v3 w = some (1, wz) → Wk X 107 2912 (lw_Z (xb X) #[Value.ref b] (xs X)) w [(0, .ref b), (1, rV (xg X) v1), (2, rV (xg X) v2), (3, .int v3)] 1095 [] := by
        intro v1 v2 v3 w hf
        unfold f_L_1095 at hf
        refine k_iinc C dL_law_1095 3 rfl (by decide) (by decide) [(3, .int (v3 + (5 : Int32))), (0, .ref b), (1, rV (xg X) v1), (2, rV (xg X) v2)] rfl 1098 rfl ?_
        refine k_goto C dL_law_1098 18 rfl ?_
        refine k_sub [1, 2, 3, 0] rfl ?_
        exact ih18 _ _ _ w hf
      have t_1081 : ∀ (v1 : Nat) (v2 : Nat) (v3 : Int32) (w : Wd), f_L_1081 L sx (f_L_18 L sx n18) v1 v2 v3 w = some (1, wz) → Wk X 107 2912 (lw_Z (xb X) #[Value.ref b] (xs X)) w [(0, .ref b), (1, rV (xg X) v1), (2, rV (xg X) v2), (3, .int v3)] 1081 [] := by
        intro v1 v2 v3 w hf
        unfold f_L_1081 at hf
        refine k_aload_n C dL_law_1081 1 rfl rfl 1082 rfl ?_
        refine k_callV_l C ye_X11_digest ve_L_155 ⟨rfl, rfl⟩ ⟨rfl, rfl⟩ dL_law_1082 [] rfl rfl (Nat.le_of_ble_eq_true rfl) (c_X11_digest _ _) hf 1085 rfl (fun x239 w238 hf => ?_)
        refine k_aload_n C dL_law_1085 2 rfl rfl 1086 rfl ?_
        refine k_callV_l C ye_X12_digest ve_L_159 ⟨rfl, rfl⟩ ⟨rfl, rfl⟩ dL_law_1086 [] rfl rfl (Nat.le_of_ble_eq_true rfl) (c_X12_digest _ _) hf 1089 rfl (fun x241 w240 hf => ?_)
        refine k_lcmp C dL_law_1089 1090 rfl ?_
        refine k_if_eq C dL_law_1090 hf 1095 rfl 1093 rfl (fun hf => ?_) (fun hf => ?_)
        · refine k_sub [0, 1, 2, 3] rfl ?_
          exact t_1095 _ _ _ w240 hf
        · refine k_iconst C dL_law_1093 (0) (by decide) 1094 rfl ?_
          exact absurd (congrArg Prod.fst (Option.some.inj hf)) (by decide : ¬ (0 : Int32) = 1)
      have t_1058 : ∀ (v1 : Nat) (v2 : Nat) (v3 : Int32) (w : Wd), f_L_1058 L sx (f_L_18 L sx n18) v1 v2 v3 w = some (1, wz) → Wk X 107 2912 (lw_Z (xb X) #[Value.ref b] (xs X)) w [(0, .ref b), (1, rV (xg X) v1), (2, rV (xg X) v2), (3, .int v3)] 1058 [] := by
        intro v1 v2 v3 w hf
        unfold f_L_1058 at hf
        refine k_aload_n C dL_law_1058 1 rfl rfl 1059 rfl ?_
        refine k_aload_n C dL_law_1059 0 rfl rfl 1060 rfl ?_
        refine k_iload_n C dL_law_1060 3 rfl 1061 rfl ?_
        refine k_iconst C dL_law_1061 (1) (by decide) 1062 rfl ?_
        refine k_iadd C dL_law_1062 1063 rfl ?_
        refine k_sld C hX hbl hbA dL_law_1063 hf 1064 rfl (fun x242 hf => ?_)
        refine k_callV_i C ye_X11_count ve_L_151 ⟨rfl, rfl⟩ ⟨rfl, rfl⟩ dL_law_1064 [.int x242] rfl rfl (Nat.le_of_ble_eq_true rfl) (c_X11_count _ _ _) hf 1067 rfl (fun x244 w243 hf => ?_)
        refine k_aload_n C dL_law_1067 2 rfl rfl 1068 rfl ?_
        refine k_aload_n C dL_law_1068 0 rfl rfl 1069 rfl ?_
        refine k_iload_n C dL_law_1069 3 rfl 1070 rfl ?_
        refine k_iconst C dL_law_1070 (1) (by decide) 1071 rfl ?_
        refine k_iadd C dL_law_1071 1072 rfl ?_
        refine k_sld C hX hbl hbA dL_law_1072 hf 1073 rfl (fun x245 hf => ?_)
        refine k_callV_i C ye_X12_count ve_L_154 ⟨rfl, rfl⟩ ⟨rfl, rfl⟩ dL_law_1073 [.int x245] rfl rfl (Nat.le_of_ble_eq_true rfl) (c_X12_count _ _ _) hf 1076 rfl (fun x247 w246 hf => ?_)
        refine k_icmp_eq C dL_law_1076 hf 1095 rfl 1079 rfl (fun hf => ?_) (fun hf => ?_)
        · refine k_sub [0, 1, 2, 3] rfl ?_
          exact t_1095 _ _ _ w246 hf
        · refine k_iconst C dL_law_1079 (0) (by decide) 1080 rfl ?_
          exact absurd (congrArg Prod.fst (Option.some.inj hf)) (by decide : ¬ (0 : Int32) = 1)
      have t_1035 : ∀ (v1 : Nat) (v2 : Nat) (v3 : Int32) (w : Wd), f_L_1035 L sx (f_L_18 L sx n18) v1 v2 v3 w = some (1, wz) → Wk X 107 2912 (lw_Z (xb X) #[Value.ref b] (xs X)) w [(0, .ref b), (1, rV (xg X) v1), (2, rV (xg X) v2), (3, .int v3)] 1035 [] := by
        intro v1 v2 v3 w hf
        unfold f_L_1035 at hf
        refine k_aload_n C dL_law_1035 1 rfl rfl 1036 rfl ?_
        refine k_aload_n C dL_law_1036 0 rfl rfl 1037 rfl ?_
        refine k_iload_n C dL_law_1037 3 rfl 1038 rfl ?_
        refine k_iconst C dL_law_1038 (1) (by decide) 1039 rfl ?_
        refine k_iadd C dL_law_1039 1040 rfl ?_
        refine k_sld C hX hbl hbA dL_law_1040 hf 1041 rfl (fun x248 hf => ?_)
        refine k_callV_i C ye_X11_status ve_L_147 ⟨rfl, rfl⟩ ⟨rfl, rfl⟩ dL_law_1041 [.int x248] rfl rfl (Nat.le_of_ble_eq_true rfl) (c_X11_status _ _ _) hf 1044 rfl (fun x250 w249 hf => ?_)
        refine k_aload_n C dL_law_1044 2 rfl rfl 1045 rfl ?_
        refine k_aload_n C dL_law_1045 0 rfl rfl 1046 rfl ?_
        refine k_iload_n C dL_law_1046 3 rfl 1047 rfl ?_
        refine k_iconst C dL_law_1047 (1) (by decide) 1048 rfl ?_
        refine k_iadd C dL_law_1048 1049 rfl ?_
        refine k_sld C hX hbl hbA dL_law_1049 hf 1050 rfl (fun x251 hf => ?_)
        refine k_callV_i C ye_X12_status ve_L_150 ⟨rfl, rfl⟩ ⟨rfl, rfl⟩ dL_law_1050 [.int x251] rfl rfl (Nat.le_of_ble_eq_true rfl) (c_X12_status _ _ _) hf 1053 rfl (fun x253 w252 hf => ?_)
        refine k_icmp_eq C dL_law_1053 hf 1095 rfl 1056 rfl (fun hf => ?_) (fun hf => ?_)
        · refine k_sub [0, 1, 2, 3] rfl ?_
          exact t_1095 _ _ _ w252 hf
        · refine k_iconst C dL_law_1056 (0) (by decide) 1057 rfl ?_
          exact absurd (congrArg Prod.fst (Option.some.inj hf)) (by decide : ¬ (0 : Int32) = 1)
      have t_1012 : ∀ (v1 : Nat) (v2 : Nat) (v3 : Int32) (w : Wd), f_L_1012 L sx (f_L_18 L sx n18) v1 v2 v3 w = some (1, wz) → Wk X 107 2912 (lw_Z (xb X) #[Value.ref b] (xs X)) w [(0, .ref b), (1, rV (xg X) v1), (2, rV (xg X) v2), (3, .int v3)] 1012 [] := by
        intro v1 v2 v3 w hf
        unfold f_L_1012 at hf
        refine k_aload_n C dL_law_1012 1 rfl rfl 1013 rfl ?_
        refine k_aload_n C dL_law_1013 0 rfl rfl 1014 rfl ?_
        refine k_iload_n C dL_law_1014 3 rfl 1015 rfl ?_
        refine k_iconst C dL_law_1015 (1) (by decide) 1016 rfl ?_
        refine k_iadd C dL_law_1016 1017 rfl ?_
        refine k_sld C hX hbl hbA dL_law_1017 hf 1018 rfl (fun x254 hf => ?_)
        refine k_callV_i C ye_X11_from ve_L_143 ⟨rfl, rfl⟩ ⟨rfl, rfl⟩ dL_law_1018 [.int x254] rfl rfl (Nat.le_of_ble_eq_true rfl) (c_X11_from _ _ _) hf 1021 rfl (fun x256 w255 hf => ?_)
        refine k_aload_n C dL_law_1021 2 rfl rfl 1022 rfl ?_
        refine k_aload_n C dL_law_1022 0 rfl rfl 1023 rfl ?_
        refine k_iload_n C dL_law_1023 3 rfl 1024 rfl ?_
        refine k_iconst C dL_law_1024 (1) (by decide) 1025 rfl ?_
        refine k_iadd C dL_law_1025 1026 rfl ?_
        refine k_sld C hX hbl hbA dL_law_1026 hf 1027 rfl (fun x257 hf => ?_)
        refine k_callV_i C ye_X12_from ve_L_146 ⟨rfl, rfl⟩ ⟨rfl, rfl⟩ dL_law_1027 [.int x257] rfl rfl (Nat.le_of_ble_eq_true rfl) (c_X12_from _ _ _) hf 1030 rfl (fun x259 w258 hf => ?_)
        refine k_icmp_eq C dL_law_1030 hf 1095 rfl 1033 rfl (fun hf => ?_) (fun hf => ?_)
        · refine k_sub [0, 1, 2, 3] rfl ?_
          exact t_1095 _ _ _ w258 hf
        · refine k_iconst C dL_law_1033 (0) (by decide) 1034 rfl ?_
          exact absurd (congrArg Prod.fst (Option.some.inj hf)) (by decide : ¬ (0 : Int32) = 1)
      have t_989 : ∀ (v1 : Nat) (v2 : Nat) (v3 : Int32) (w : Wd), f_L_989 L sx (f_L_18 L sx n18) v1 v2 v3 w = some (1, wz) → Wk X 107 2912 (lw_Z (xb X) #[Value.ref b] (xs X)) w [(0, .ref b), (1, rV (xg X) v1), (2, rV (xg X) v2), (3, .int v3)] 989 [] := by
        intro v1 v2 v3 w hf
        unfold f_L_989 at hf
        refine k_aload_n C dL_law_989 1 rfl rfl 990 rfl ?_
        refine k_aload_n C dL_law_990 0 rfl rfl 991 rfl ?_
        refine k_iload_n C dL_law_991 3 rfl 992 rfl ?_
        refine k_iconst C dL_law_992 (1) (by decide) 993 rfl ?_
        refine k_iadd C dL_law_993 994 rfl ?_
        refine k_sld C hX hbl hbA dL_law_994 hf 995 rfl (fun x260 hf => ?_)
        refine k_callV_i C ye_X11_image ve_L_139 ⟨rfl, rfl⟩ ⟨rfl, rfl⟩ dL_law_995 [.int x260] rfl rfl (Nat.le_of_ble_eq_true rfl) (c_X11_image _ _ _) hf 998 rfl (fun x262 w261 hf => ?_)
        refine k_aload_n C dL_law_998 2 rfl rfl 999 rfl ?_
        refine k_aload_n C dL_law_999 0 rfl rfl 1000 rfl ?_
        refine k_iload_n C dL_law_1000 3 rfl 1001 rfl ?_
        refine k_iconst C dL_law_1001 (1) (by decide) 1002 rfl ?_
        refine k_iadd C dL_law_1002 1003 rfl ?_
        refine k_sld C hX hbl hbA dL_law_1003 hf 1004 rfl (fun x263 hf => ?_)
        refine k_callV_i C ye_X12_image ve_L_142 ⟨rfl, rfl⟩ ⟨rfl, rfl⟩ dL_law_1004 [.int x263] rfl rfl (Nat.le_of_ble_eq_true rfl) (c_X12_image _ _ _) hf 1007 rfl (fun x265 w264 hf => ?_)
        refine k_icmp_eq C dL_law_1007 hf 1095 rfl 1010 rfl (fun hf => ?_) (fun hf => ?_)
        · refine k_sub [0, 1, 2, 3] rfl ?_
          exact t_1095 _ _ _ w264 hf
        · refine k_iconst C dL_law_1010 (0) (by decide) 1011 rfl ?_
          exact absurd (congrArg Prod.fst (Option.some.inj hf)) (by decide : ¬ (0 : Int32) = 1)
      have t_965 : ∀ (v1 : Nat) (v2 : Nat) (v3 : Int32) (w : Wd), f_L_965 L sx (f_L_18 L sx n18) v1 v2 v3 w = some (1, wz) → Wk X 107 2912 (lw_Z (xb X) #[Value.ref b] (xs X)) w [(0, .ref b), (1, rV (xg X) v1), (2, rV (xg X) v2), (3, .int v3)] 965 [] := by
        intro v1 v2 v3 w hf
        unfold f_L_965 at hf
        refine k_aload_n C dL_law_965 1 rfl rfl 966 rfl ?_
        refine k_aload_n C dL_law_966 0 rfl rfl 967 rfl ?_
        refine k_iload_n C dL_law_967 3 rfl 968 rfl ?_
        refine k_iconst C dL_law_968 (1) (by decide) 969 rfl ?_
        refine k_iadd C dL_law_969 970 rfl ?_
        refine k_sld C hX hbl hbA dL_law_970 hf 971 rfl (fun x266 hf => ?_)
        refine k_callV_l C ye_X11_part ve_L_134 ⟨rfl, rfl⟩ ⟨rfl, rfl⟩ dL_law_971 [.int x266] rfl rfl (Nat.le_of_ble_eq_true rfl) (c_X11_part _ _ _) hf 974 rfl (fun x268 w267 hf => ?_)
        refine k_aload_n C dL_law_974 2 rfl rfl 975 rfl ?_
        refine k_aload_n C dL_law_975 0 rfl rfl 976 rfl ?_
        refine k_iload_n C dL_law_976 3 rfl 977 rfl ?_
        refine k_iconst C dL_law_977 (1) (by decide) 978 rfl ?_
        refine k_iadd C dL_law_978 979 rfl ?_
        refine k_sld C hX hbl hbA dL_law_979 hf 980 rfl (fun x269 hf => ?_)
        refine k_callV_l C ye_X12_part ve_L_138 ⟨rfl, rfl⟩ ⟨rfl, rfl⟩ dL_law_980 [.int x269] rfl rfl (Nat.le_of_ble_eq_true rfl) (c_X12_part _ _ _) hf 983 rfl (fun x271 w270 hf => ?_)
        refine k_lcmp C dL_law_983 984 rfl ?_
        refine k_if_eq C dL_law_984 hf 1095 rfl 987 rfl (fun hf => ?_) (fun hf => ?_)
        · refine k_sub [0, 1, 2, 3] rfl ?_
          exact t_1095 _ _ _ w270 hf
        · refine k_iconst C dL_law_987 (0) (by decide) 988 rfl ?_
          exact absurd (congrArg Prod.fst (Option.some.inj hf)) (by decide : ¬ (0 : Int32) = 1)
      have t_932 : ∀ (v1 : Nat) (v2 : Nat) (v3 : Int32) (w : Wd), f_L_932 L sx (f_L_18 L sx n18) v1 v2 v3 w = some (1, wz) → Wk X 107 2912 (lw_Z (xb X) #[Value.ref b] (xs X)) w [(0, .ref b), (1, rV (xg X) v1), (2, rV (xg X) v2), (3, .int v3)] 932 [] := by
        intro v1 v2 v3 w hf
        unfold f_L_932 at hf
        refine k_aload_n C dL_law_932 1 rfl rfl 933 rfl ?_
        refine k_aload_n C dL_law_933 0 rfl rfl 934 rfl ?_
        refine k_iload_n C dL_law_934 3 rfl 935 rfl ?_
        refine k_iconst C dL_law_935 (1) (by decide) 936 rfl ?_
        refine k_iadd C dL_law_936 937 rfl ?_
        refine k_sld C hX hbl hbA dL_law_937 hf 938 rfl (fun x272 hf => ?_)
        refine k_aload_n C dL_law_938 0 rfl rfl 939 rfl ?_
        refine k_iload_n C dL_law_939 3 rfl 940 rfl ?_
        refine k_iconst C dL_law_940 (2) (by decide) 941 rfl ?_
        refine k_iadd C dL_law_941 942 rfl ?_
        refine k_sld C hX hbl hbA dL_law_942 hf 943 rfl (fun x273 hf => ?_)
        refine k_callV_i C ye_X11_mills ve_L_130 ⟨rfl, rfl⟩ ⟨rfl, rfl⟩ dL_law_943 [.int x272, .int x273] rfl rfl (Nat.le_of_ble_eq_true rfl) (c_X11_mills _ _ _ _) hf 946 rfl (fun x275 w274 hf => ?_)
        refine k_aload_n C dL_law_946 2 rfl rfl 947 rfl ?_
        refine k_aload_n C dL_law_947 0 rfl rfl 948 rfl ?_
        refine k_iload_n C dL_law_948 3 rfl 949 rfl ?_
        refine k_iconst C dL_law_949 (1) (by decide) 950 rfl ?_
        refine k_iadd C dL_law_950 951 rfl ?_
        refine k_sld C hX hbl hbA dL_law_951 hf 952 rfl (fun x276 hf => ?_)
        refine k_aload_n C dL_law_952 0 rfl rfl 953 rfl ?_
        refine k_iload_n C dL_law_953 3 rfl 954 rfl ?_
        refine k_iconst C dL_law_954 (2) (by decide) 955 rfl ?_
        refine k_iadd C dL_law_955 956 rfl ?_
        refine k_sld C hX hbl hbA dL_law_956 hf 957 rfl (fun x277 hf => ?_)
        refine k_callV_i C ye_X12_mills ve_L_133 ⟨rfl, rfl⟩ ⟨rfl, rfl⟩ dL_law_957 [.int x276, .int x277] rfl rfl (Nat.le_of_ble_eq_true rfl) (c_X12_mills _ _ _ _) hf 960 rfl (fun x279 w278 hf => ?_)
        refine k_icmp_eq C dL_law_960 hf 1095 rfl 963 rfl (fun hf => ?_) (fun hf => ?_)
        · refine k_sub [0, 1, 2, 3] rfl ?_
          exact t_1095 _ _ _ w278 hf
        · refine k_iconst C dL_law_963 (0) (by decide) 964 rfl ?_
          exact absurd (congrArg Prod.fst (Option.some.inj hf)) (by decide : ¬ (0 : Int32) = 1)
      have t_889 : ∀ (v1 : Nat) (v2 : Nat) (v3 : Int32) (w : Wd), f_L_889 L sx (f_L_18 L sx n18) v1 v2 v3 w = some (1, wz) → Wk X 107 2912 (lw_Z (xb X) #[Value.ref b] (xs X)) w [(0, .ref b), (1, rV (xg X) v1), (2, rV (xg X) v2), (3, .int v3)] 889 [] := by
        intro v1 v2 v3 w hf
        unfold f_L_889 at hf
        refine k_aload_n C dL_law_889 1 rfl rfl 890 rfl ?_
        refine k_aload_n C dL_law_890 0 rfl rfl 891 rfl ?_
        refine k_iload_n C dL_law_891 3 rfl 892 rfl ?_
        refine k_iconst C dL_law_892 (1) (by decide) 893 rfl ?_
        refine k_iadd C dL_law_893 894 rfl ?_
        refine k_sld C hX hbl hbA dL_law_894 hf 895 rfl (fun x280 hf => ?_)
        refine k_aload_n C dL_law_895 0 rfl rfl 896 rfl ?_
        refine k_iload_n C dL_law_896 3 rfl 897 rfl ?_
        refine k_iconst C dL_law_897 (2) (by decide) 898 rfl ?_
        refine k_iadd C dL_law_898 899 rfl ?_
        refine k_sld C hX hbl hbA dL_law_899 hf 900 rfl (fun x281 hf => ?_)
        refine k_aload_n C dL_law_900 0 rfl rfl 901 rfl ?_
        refine k_iload_n C dL_law_901 3 rfl 902 rfl ?_
        refine k_iconst C dL_law_902 (3) (by decide) 903 rfl ?_
        refine k_iadd C dL_law_903 904 rfl ?_
        refine k_sld C hX hbl hbA dL_law_904 hf 905 rfl (fun x282 hf => ?_)
        refine k_callV_i C ye_X11_thieves ve_L_126 ⟨rfl, rfl⟩ ⟨rfl, rfl⟩ dL_law_905 [.int x280, .int x281, .int x282] rfl rfl (Nat.le_of_ble_eq_true rfl) (c_X11_thieves _ _ _ _ _) hf 908 rfl (fun x284 w283 hf => ?_)
        refine k_aload_n C dL_law_908 2 rfl rfl 909 rfl ?_
        refine k_aload_n C dL_law_909 0 rfl rfl 910 rfl ?_
        refine k_iload_n C dL_law_910 3 rfl 911 rfl ?_
        refine k_iconst C dL_law_911 (1) (by decide) 912 rfl ?_
        refine k_iadd C dL_law_912 913 rfl ?_
        refine k_sld C hX hbl hbA dL_law_913 hf 914 rfl (fun x285 hf => ?_)
        refine k_aload_n C dL_law_914 0 rfl rfl 915 rfl ?_
        refine k_iload_n C dL_law_915 3 rfl 916 rfl ?_
        refine k_iconst C dL_law_916 (2) (by decide) 917 rfl ?_
        refine k_iadd C dL_law_917 918 rfl ?_
        refine k_sld C hX hbl hbA dL_law_918 hf 919 rfl (fun x286 hf => ?_)
        refine k_aload_n C dL_law_919 0 rfl rfl 920 rfl ?_
        refine k_iload_n C dL_law_920 3 rfl 921 rfl ?_
        refine k_iconst C dL_law_921 (3) (by decide) 922 rfl ?_
        refine k_iadd C dL_law_922 923 rfl ?_
        refine k_sld C hX hbl hbA dL_law_923 hf 924 rfl (fun x287 hf => ?_)
        refine k_callV_i C ye_X12_thieves ve_L_129 ⟨rfl, rfl⟩ ⟨rfl, rfl⟩ dL_law_924 [.int x285, .int x286, .int x287] rfl rfl (Nat.le_of_ble_eq_true rfl) (c_X12_thieves _ _ _ _ _) hf 927 rfl (fun x289 w288 hf => ?_)
        refine k_icmp_eq C dL_law_927 hf 1095 rfl 930 rfl (fun hf => ?_) (fun hf => ?_)
        · refine k_sub [0, 1, 2, 3] rfl ?_
          exact t_1095 _ _ _ w288 hf
        · refine k_iconst C dL_law_930 (0) (by decide) 931 rfl ?_
          exact absurd (congrArg Prod.fst (Option.some.inj hf)) (by decide : ¬ (0 : Int32) = 1)
      have t_866 : ∀ (v1 : Nat) (v2 : Nat) (v3 : Int32) (w : Wd), f_L_866 L sx (f_L_18 L sx n18) v1 v2 v3 w = some (1, wz) → Wk X 107 2912 (lw_Z (xb X) #[Value.ref b] (xs X)) w [(0, .ref b), (1, rV (xg X) v1), (2, rV (xg X) v2), (3, .int v3)] 866 [] := by
        intro v1 v2 v3 w hf
        unfold f_L_866 at hf
        refine k_aload_n C dL_law_866 1 rfl rfl 867 rfl ?_
        refine k_aload_n C dL_law_867 0 rfl rfl 868 rfl ?_
        refine k_iload_n C dL_law_868 3 rfl 869 rfl ?_
        refine k_iconst C dL_law_869 (1) (by decide) 870 rfl ?_
        refine k_iadd C dL_law_870 871 rfl ?_
        refine k_sld C hX hbl hbA dL_law_871 hf 872 rfl (fun x290 hf => ?_)
        refine k_callV_i C ye_X11_look ve_L_122 ⟨rfl, rfl⟩ ⟨rfl, rfl⟩ dL_law_872 [.int x290] rfl rfl (Nat.le_of_ble_eq_true rfl) (c_X11_look _ _ _) hf 875 rfl (fun x292 w291 hf => ?_)
        refine k_aload_n C dL_law_875 2 rfl rfl 876 rfl ?_
        refine k_aload_n C dL_law_876 0 rfl rfl 877 rfl ?_
        refine k_iload_n C dL_law_877 3 rfl 878 rfl ?_
        refine k_iconst C dL_law_878 (1) (by decide) 879 rfl ?_
        refine k_iadd C dL_law_879 880 rfl ?_
        refine k_sld C hX hbl hbA dL_law_880 hf 881 rfl (fun x293 hf => ?_)
        refine k_callV_i C ye_X12_look ve_L_125 ⟨rfl, rfl⟩ ⟨rfl, rfl⟩ dL_law_881 [.int x293] rfl rfl (Nat.le_of_ble_eq_true rfl) (c_X12_look _ _ _) hf 884 rfl (fun x295 w294 hf => ?_)
        refine k_icmp_eq C dL_law_884 hf 1095 rfl 887 rfl (fun hf => ?_) (fun hf => ?_)
        · refine k_sub [0, 1, 2, 3] rfl ?_
          exact t_1095 _ _ _ w294 hf
        · refine k_iconst C dL_law_887 (0) (by decide) 888 rfl ?_
          exact absurd (congrArg Prod.fst (Option.some.inj hf)) (by decide : ¬ (0 : Int32) = 1)
      have t_833 : ∀ (v1 : Nat) (v2 : Nat) (v3 : Int32) (w : Wd), f_L_833 L sx (f_L_18 L sx n18) v1 v2 v3 w = some (1, wz) → Wk X 107 2912 (lw_Z (xb X) #[Value.ref b] (xs X)) w [(0, .ref b), (1, rV (xg X) v1), (2, rV (xg X) v2), (3, .int v3)] 833 [] := by
        intro v1 v2 v3 w hf
        unfold f_L_833 at hf
        refine k_aload_n C dL_law_833 1 rfl rfl 834 rfl ?_
        refine k_aload_n C dL_law_834 0 rfl rfl 835 rfl ?_
        refine k_iload_n C dL_law_835 3 rfl 836 rfl ?_
        refine k_iconst C dL_law_836 (1) (by decide) 837 rfl ?_
        refine k_iadd C dL_law_837 838 rfl ?_
        refine k_sld C hX hbl hbA dL_law_838 hf 839 rfl (fun x296 hf => ?_)
        refine k_aload_n C dL_law_839 0 rfl rfl 840 rfl ?_
        refine k_iload_n C dL_law_840 3 rfl 841 rfl ?_
        refine k_iconst C dL_law_841 (2) (by decide) 842 rfl ?_
        refine k_iadd C dL_law_842 843 rfl ?_
        refine k_sld C hX hbl hbA dL_law_843 hf 844 rfl (fun x297 hf => ?_)
        refine k_callV_i C ye_X11_is ve_L_118 ⟨rfl, rfl⟩ ⟨rfl, rfl⟩ dL_law_844 [.int x296, .int x297] rfl rfl (Nat.le_of_ble_eq_true rfl) (c_X11_is _ _ _ _) hf 847 rfl (fun x299 w298 hf => ?_)
        refine k_aload_n C dL_law_847 2 rfl rfl 848 rfl ?_
        refine k_aload_n C dL_law_848 0 rfl rfl 849 rfl ?_
        refine k_iload_n C dL_law_849 3 rfl 850 rfl ?_
        refine k_iconst C dL_law_850 (1) (by decide) 851 rfl ?_
        refine k_iadd C dL_law_851 852 rfl ?_
        refine k_sld C hX hbl hbA dL_law_852 hf 853 rfl (fun x300 hf => ?_)
        refine k_aload_n C dL_law_853 0 rfl rfl 854 rfl ?_
        refine k_iload_n C dL_law_854 3 rfl 855 rfl ?_
        refine k_iconst C dL_law_855 (2) (by decide) 856 rfl ?_
        refine k_iadd C dL_law_856 857 rfl ?_
        refine k_sld C hX hbl hbA dL_law_857 hf 858 rfl (fun x301 hf => ?_)
        refine k_callV_i C ye_X12_is ve_L_121 ⟨rfl, rfl⟩ ⟨rfl, rfl⟩ dL_law_858 [.int x300, .int x301] rfl rfl (Nat.le_of_ble_eq_true rfl) (c_X12_is _ _ _ _) hf 861 rfl (fun x303 w302 hf => ?_)
        refine k_icmp_eq C dL_law_861 hf 1095 rfl 864 rfl (fun hf => ?_) (fun hf => ?_)
        · refine k_sub [0, 1, 2, 3] rfl ?_
          exact t_1095 _ _ _ w302 hf
        · refine k_iconst C dL_law_864 (0) (by decide) 865 rfl ?_
          exact absurd (congrArg Prod.fst (Option.some.inj hf)) (by decide : ¬ (0 : Int32) = 1)
      have t_810 : ∀ (v1 : Nat) (v2 : Nat) (v3 : Int32) (w : Wd), f_L_810 L sx (f_L_18 L sx n18) v1 v2 v3 w = some (1, wz) → Wk X 107 2912 (lw_Z (xb X) #[Value.ref b] (xs X)) w [(0, .ref b), (1, rV (xg X) v1), (2, rV (xg X) v2), (3, .int v3)] 810 [] := by
        intro v1 v2 v3 w hf
        unfold f_L_810 at hf
        refine k_aload_n C dL_law_810 1 rfl rfl 811 rfl ?_
        refine k_aload_n C dL_law_811 0 rfl rfl 812 rfl ?_
        refine k_iload_n C dL_law_812 3 rfl 813 rfl ?_
        refine k_iconst C dL_law_813 (1) (by decide) 814 rfl ?_
        refine k_iadd C dL_law_814 815 rfl ?_
        refine k_sld C hX hbl hbA dL_law_815 hf 816 rfl (fun x304 hf => ?_)
        refine k_callV_i C ye_X11_forget ve_L_114 ⟨rfl, rfl⟩ ⟨rfl, rfl⟩ dL_law_816 [.int x304] rfl rfl (Nat.le_of_ble_eq_true rfl) (c_X11_forget _ _ _) hf 819 rfl (fun x306 w305 hf => ?_)
        refine k_aload_n C dL_law_819 2 rfl rfl 820 rfl ?_
        refine k_aload_n C dL_law_820 0 rfl rfl 821 rfl ?_
        refine k_iload_n C dL_law_821 3 rfl 822 rfl ?_
        refine k_iconst C dL_law_822 (1) (by decide) 823 rfl ?_
        refine k_iadd C dL_law_823 824 rfl ?_
        refine k_sld C hX hbl hbA dL_law_824 hf 825 rfl (fun x307 hf => ?_)
        refine k_callV_i C ye_X12_forget ve_L_117 ⟨rfl, rfl⟩ ⟨rfl, rfl⟩ dL_law_825 [.int x307] rfl rfl (Nat.le_of_ble_eq_true rfl) (c_X12_forget _ _ _) hf 828 rfl (fun x309 w308 hf => ?_)
        refine k_icmp_eq C dL_law_828 hf 1095 rfl 831 rfl (fun hf => ?_) (fun hf => ?_)
        · refine k_sub [0, 1, 2, 3] rfl ?_
          exact t_1095 _ _ _ w308 hf
        · refine k_iconst C dL_law_831 (0) (by decide) 832 rfl ?_
          exact absurd (congrArg Prod.fst (Option.some.inj hf)) (by decide : ¬ (0 : Int32) = 1)
      have t_757 : ∀ (v1 : Nat) (v2 : Nat) (v3 : Int32) (w : Wd), f_L_757 L sx (f_L_18 L sx n18) v1 v2 v3 w = some (1, wz) → Wk X 107 2912 (lw_Z (xb X) #[Value.ref b] (xs X)) w [(0, .ref b), (1, rV (xg X) v1), (2, rV (xg X) v2), (3, .int v3)] 757 [] := by
        intro v1 v2 v3 w hf
        unfold f_L_757 at hf
        refine k_aload_n C dL_law_757 1 rfl rfl 758 rfl ?_
        refine k_aload_n C dL_law_758 0 rfl rfl 759 rfl ?_
        refine k_iload_n C dL_law_759 3 rfl 760 rfl ?_
        refine k_iconst C dL_law_760 (1) (by decide) 761 rfl ?_
        refine k_iadd C dL_law_761 762 rfl ?_
        refine k_sld C hX hbl hbA dL_law_762 hf 763 rfl (fun x310 hf => ?_)
        refine k_aload_n C dL_law_763 0 rfl rfl 764 rfl ?_
        refine k_iload_n C dL_law_764 3 rfl 765 rfl ?_
        refine k_iconst C dL_law_765 (2) (by decide) 766 rfl ?_
        refine k_iadd C dL_law_766 767 rfl ?_
        refine k_sld C hX hbl hbA dL_law_767 hf 768 rfl (fun x311 hf => ?_)
        refine k_aload_n C dL_law_768 0 rfl rfl 769 rfl ?_
        refine k_iload_n C dL_law_769 3 rfl 770 rfl ?_
        refine k_iconst C dL_law_770 (3) (by decide) 771 rfl ?_
        refine k_iadd C dL_law_771 772 rfl ?_
        refine k_sld C hX hbl hbA dL_law_772 hf 773 rfl (fun x312 hf => ?_)
        refine k_aload_n C dL_law_773 0 rfl rfl 774 rfl ?_
        refine k_iload_n C dL_law_774 3 rfl 775 rfl ?_
        refine k_iconst C dL_law_775 (4) (by decide) 776 rfl ?_
        refine k_iadd C dL_law_776 777 rfl ?_
        refine k_sld C hX hbl hbA dL_law_777 hf 778 rfl (fun x313 hf => ?_)
        refine k_callV_i C ye_X11_note ve_L_109 ⟨rfl, rfl⟩ ⟨rfl, rfl⟩ dL_law_778 [.int x310, .int x311, .int x312, .int x313] rfl rfl (Nat.le_of_ble_eq_true rfl) (c_X11_note _ _ _ _ _ _) hf 781 rfl (fun x315 w314 hf => ?_)
        refine k_aload_n C dL_law_781 2 rfl rfl 782 rfl ?_
        refine k_aload_n C dL_law_782 0 rfl rfl 783 rfl ?_
        refine k_iload_n C dL_law_783 3 rfl 784 rfl ?_
        refine k_iconst C dL_law_784 (1) (by decide) 785 rfl ?_
        refine k_iadd C dL_law_785 786 rfl ?_
        refine k_sld C hX hbl hbA dL_law_786 hf 787 rfl (fun x316 hf => ?_)
        refine k_aload_n C dL_law_787 0 rfl rfl 788 rfl ?_
        refine k_iload_n C dL_law_788 3 rfl 789 rfl ?_
        refine k_iconst C dL_law_789 (2) (by decide) 790 rfl ?_
        refine k_iadd C dL_law_790 791 rfl ?_
        refine k_sld C hX hbl hbA dL_law_791 hf 792 rfl (fun x317 hf => ?_)
        refine k_aload_n C dL_law_792 0 rfl rfl 793 rfl ?_
        refine k_iload_n C dL_law_793 3 rfl 794 rfl ?_
        refine k_iconst C dL_law_794 (3) (by decide) 795 rfl ?_
        refine k_iadd C dL_law_795 796 rfl ?_
        refine k_sld C hX hbl hbA dL_law_796 hf 797 rfl (fun x318 hf => ?_)
        refine k_aload_n C dL_law_797 0 rfl rfl 798 rfl ?_
        refine k_iload_n C dL_law_798 3 rfl 799 rfl ?_
        refine k_iconst C dL_law_799 (4) (by decide) 800 rfl ?_
        refine k_iadd C dL_law_800 801 rfl ?_
        refine k_sld C hX hbl hbA dL_law_801 hf 802 rfl (fun x319 hf => ?_)
        refine k_callV_i C ye_X12_note ve_L_113 ⟨rfl, rfl⟩ ⟨rfl, rfl⟩ dL_law_802 [.int x316, .int x317, .int x318, .int x319] rfl rfl (Nat.le_of_ble_eq_true rfl) (c_X12_note _ _ _ _ _ _) hf 805 rfl (fun x321 w320 hf => ?_)
        refine k_icmp_eq C dL_law_805 hf 1095 rfl 808 rfl (fun hf => ?_) (fun hf => ?_)
        · refine k_sub [0, 1, 2, 3] rfl ?_
          exact t_1095 _ _ _ w320 hf
        · refine k_iconst C dL_law_808 (0) (by decide) 809 rfl ?_
          exact absurd (congrArg Prod.fst (Option.some.inj hf)) (by decide : ¬ (0 : Int32) = 1)
      have t_724 : ∀ (v1 : Nat) (v2 : Nat) (v3 : Int32) (w : Wd), f_L_724 L sx (f_L_18 L sx n18) v1 v2 v3 w = some (1, wz) → Wk X 107 2912 (lw_Z (xb X) #[Value.ref b] (xs X)) w [(0, .ref b), (1, rV (xg X) v1), (2, rV (xg X) v2), (3, .int v3)] 724 [] := by
        intro v1 v2 v3 w hf
        unfold f_L_724 at hf
        refine k_aload_n C dL_law_724 1 rfl rfl 725 rfl ?_
        refine k_aload_n C dL_law_725 0 rfl rfl 726 rfl ?_
        refine k_iload_n C dL_law_726 3 rfl 727 rfl ?_
        refine k_iconst C dL_law_727 (1) (by decide) 728 rfl ?_
        refine k_iadd C dL_law_728 729 rfl ?_
        refine k_sld C hX hbl hbA dL_law_729 hf 730 rfl (fun x322 hf => ?_)
        refine k_aload_n C dL_law_730 0 rfl rfl 731 rfl ?_
        refine k_iload_n C dL_law_731 3 rfl 732 rfl ?_
        refine k_iconst C dL_law_732 (2) (by decide) 733 rfl ?_
        refine k_iadd C dL_law_733 734 rfl ?_
        refine k_sld C hX hbl hbA dL_law_734 hf 735 rfl (fun x323 hf => ?_)
        refine k_callV_i C ye_X11_street ve_L_105 ⟨rfl, rfl⟩ ⟨rfl, rfl⟩ dL_law_735 [.int x322, .int x323] rfl rfl (Nat.le_of_ble_eq_true rfl) (c_X11_street _ _ _ _) hf 738 rfl (fun x325 w324 hf => ?_)
        refine k_aload_n C dL_law_738 2 rfl rfl 739 rfl ?_
        refine k_aload_n C dL_law_739 0 rfl rfl 740 rfl ?_
        refine k_iload_n C dL_law_740 3 rfl 741 rfl ?_
        refine k_iconst C dL_law_741 (1) (by decide) 742 rfl ?_
        refine k_iadd C dL_law_742 743 rfl ?_
        refine k_sld C hX hbl hbA dL_law_743 hf 744 rfl (fun x326 hf => ?_)
        refine k_aload_n C dL_law_744 0 rfl rfl 745 rfl ?_
        refine k_iload_n C dL_law_745 3 rfl 746 rfl ?_
        refine k_iconst C dL_law_746 (2) (by decide) 747 rfl ?_
        refine k_iadd C dL_law_747 748 rfl ?_
        refine k_sld C hX hbl hbA dL_law_748 hf 749 rfl (fun x327 hf => ?_)
        refine k_callV_i C ye_X12_street ve_L_108 ⟨rfl, rfl⟩ ⟨rfl, rfl⟩ dL_law_749 [.int x326, .int x327] rfl rfl (Nat.le_of_ble_eq_true rfl) (c_X12_street _ _ _ _) hf 752 rfl (fun x329 w328 hf => ?_)
        refine k_icmp_eq C dL_law_752 hf 1095 rfl 755 rfl (fun hf => ?_) (fun hf => ?_)
        · refine k_sub [0, 1, 2, 3] rfl ?_
          exact t_1095 _ _ _ w328 hf
        · refine k_iconst C dL_law_755 (0) (by decide) 756 rfl ?_
          exact absurd (congrArg Prod.fst (Option.some.inj hf)) (by decide : ¬ (0 : Int32) = 1)
      have t_711 : ∀ (v1 : Nat) (v2 : Nat) (v3 : Int32) (w : Wd), f_L_711 L sx (f_L_18 L sx n18) v1 v2 v3 w = some (1, wz) → Wk X 107 2912 (lw_Z (xb X) #[Value.ref b] (xs X)) w [(0, .ref b), (1, rV (xg X) v1), (2, rV (xg X) v2), (3, .int v3)] 711 [] := by
        intro v1 v2 v3 w hf
        unfold f_L_711 at hf
        refine k_aload_n C dL_law_711 1 rfl rfl 712 rfl ?_
        refine k_callV_i C ye_X11_nextGuess ve_L_101 ⟨rfl, rfl⟩ ⟨rfl, rfl⟩ dL_law_712 [] rfl rfl (Nat.le_of_ble_eq_true rfl) (c_X11_nextGuess _ _) hf 715 rfl (fun x331 w330 hf => ?_)
        refine k_aload_n C dL_law_715 2 rfl rfl 716 rfl ?_
        refine k_callV_i C ye_X12_nextGuess ve_L_104 ⟨rfl, rfl⟩ ⟨rfl, rfl⟩ dL_law_716 [] rfl rfl (Nat.le_of_ble_eq_true rfl) (c_X12_nextGuess _ _) hf 719 rfl (fun x333 w332 hf => ?_)
        refine k_icmp_eq C dL_law_719 hf 1095 rfl 722 rfl (fun hf => ?_) (fun hf => ?_)
        · refine k_sub [0, 1, 2, 3] rfl ?_
          exact t_1095 _ _ _ w332 hf
        · refine k_iconst C dL_law_722 (0) (by decide) 723 rfl ?_
          exact absurd (congrArg Prod.fst (Option.some.inj hf)) (by decide : ¬ (0 : Int32) = 1)
      have t_688 : ∀ (v1 : Nat) (v2 : Nat) (v3 : Int32) (w : Wd), f_L_688 L sx (f_L_18 L sx n18) v1 v2 v3 w = some (1, wz) → Wk X 107 2912 (lw_Z (xb X) #[Value.ref b] (xs X)) w [(0, .ref b), (1, rV (xg X) v1), (2, rV (xg X) v2), (3, .int v3)] 688 [] := by
        intro v1 v2 v3 w hf
        unfold f_L_688 at hf
        refine k_aload_n C dL_law_688 1 rfl rfl 689 rfl ?_
        refine k_aload_n C dL_law_689 0 rfl rfl 690 rfl ?_
        refine k_iload_n C dL_law_690 3 rfl 691 rfl ?_
        refine k_iconst C dL_law_691 (1) (by decide) 692 rfl ?_
        refine k_iadd C dL_law_692 693 rfl ?_
        refine k_sld C hX hbl hbA dL_law_693 hf 694 rfl (fun x334 hf => ?_)
        refine k_callV_i C ye_X11_words ve_L_97 ⟨rfl, rfl⟩ ⟨rfl, rfl⟩ dL_law_694 [.int x334] rfl rfl (Nat.le_of_ble_eq_true rfl) (c_X11_words _ _ _) hf 697 rfl (fun x336 w335 hf => ?_)
        refine k_aload_n C dL_law_697 2 rfl rfl 698 rfl ?_
        refine k_aload_n C dL_law_698 0 rfl rfl 699 rfl ?_
        refine k_iload_n C dL_law_699 3 rfl 700 rfl ?_
        refine k_iconst C dL_law_700 (1) (by decide) 701 rfl ?_
        refine k_iadd C dL_law_701 702 rfl ?_
        refine k_sld C hX hbl hbA dL_law_702 hf 703 rfl (fun x337 hf => ?_)
        refine k_callV_i C ye_X12_words ve_L_100 ⟨rfl, rfl⟩ ⟨rfl, rfl⟩ dL_law_703 [.int x337] rfl rfl (Nat.le_of_ble_eq_true rfl) (c_X12_words _ _ _) hf 706 rfl (fun x339 w338 hf => ?_)
        refine k_icmp_eq C dL_law_706 hf 1095 rfl 709 rfl (fun hf => ?_) (fun hf => ?_)
        · refine k_sub [0, 1, 2, 3] rfl ?_
          exact t_1095 _ _ _ w338 hf
        · refine k_iconst C dL_law_709 (0) (by decide) 710 rfl ?_
          exact absurd (congrArg Prod.fst (Option.some.inj hf)) (by decide : ¬ (0 : Int32) = 1)
      have t_655 : ∀ (v1 : Nat) (v2 : Nat) (v3 : Int32) (w : Wd), f_L_655 L sx (f_L_18 L sx n18) v1 v2 v3 w = some (1, wz) → Wk X 107 2912 (lw_Z (xb X) #[Value.ref b] (xs X)) w [(0, .ref b), (1, rV (xg X) v1), (2, rV (xg X) v2), (3, .int v3)] 655 [] := by
        intro v1 v2 v3 w hf
        unfold f_L_655 at hf
        refine k_aload_n C dL_law_655 1 rfl rfl 656 rfl ?_
        refine k_aload_n C dL_law_656 0 rfl rfl 657 rfl ?_
        refine k_iload_n C dL_law_657 3 rfl 658 rfl ?_
        refine k_iconst C dL_law_658 (1) (by decide) 659 rfl ?_
        refine k_iadd C dL_law_659 660 rfl ?_
        refine k_sld C hX hbl hbA dL_law_660 hf 661 rfl (fun x340 hf => ?_)
        refine k_aload_n C dL_law_661 0 rfl rfl 662 rfl ?_
        refine k_iload_n C dL_law_662 3 rfl 663 rfl ?_
        refine k_iconst C dL_law_663 (2) (by decide) 664 rfl ?_
        refine k_iadd C dL_law_664 665 rfl ?_
        refine k_sld C hX hbl hbA dL_law_665 hf 666 rfl (fun x341 hf => ?_)
        refine k_callV_i C ye_X11_guess ve_L_93 ⟨rfl, rfl⟩ ⟨rfl, rfl⟩ dL_law_666 [.int x340, .int x341] rfl rfl (Nat.le_of_ble_eq_true rfl) (c_X11_guess _ _ _ _) hf 669 rfl (fun x343 w342 hf => ?_)
        refine k_aload_n C dL_law_669 2 rfl rfl 670 rfl ?_
        refine k_aload_n C dL_law_670 0 rfl rfl 671 rfl ?_
        refine k_iload_n C dL_law_671 3 rfl 672 rfl ?_
        refine k_iconst C dL_law_672 (1) (by decide) 673 rfl ?_
        refine k_iadd C dL_law_673 674 rfl ?_
        refine k_sld C hX hbl hbA dL_law_674 hf 675 rfl (fun x344 hf => ?_)
        refine k_aload_n C dL_law_675 0 rfl rfl 676 rfl ?_
        refine k_iload_n C dL_law_676 3 rfl 677 rfl ?_
        refine k_iconst C dL_law_677 (2) (by decide) 678 rfl ?_
        refine k_iadd C dL_law_678 679 rfl ?_
        refine k_sld C hX hbl hbA dL_law_679 hf 680 rfl (fun x345 hf => ?_)
        refine k_callV_i C ye_X12_guess ve_L_96 ⟨rfl, rfl⟩ ⟨rfl, rfl⟩ dL_law_680 [.int x344, .int x345] rfl rfl (Nat.le_of_ble_eq_true rfl) (c_X12_guess _ _ _ _) hf 683 rfl (fun x347 w346 hf => ?_)
        refine k_icmp_eq C dL_law_683 hf 1095 rfl 686 rfl (fun hf => ?_) (fun hf => ?_)
        · refine k_sub [0, 1, 2, 3] rfl ?_
          exact t_1095 _ _ _ w346 hf
        · refine k_iconst C dL_law_686 (0) (by decide) 687 rfl ?_
          exact absurd (congrArg Prod.fst (Option.some.inj hf)) (by decide : ¬ (0 : Int32) = 1)
      have t_622 : ∀ (v1 : Nat) (v2 : Nat) (v3 : Int32) (w : Wd), f_L_622 L sx (f_L_18 L sx n18) v1 v2 v3 w = some (1, wz) → Wk X 107 2912 (lw_Z (xb X) #[Value.ref b] (xs X)) w [(0, .ref b), (1, rV (xg X) v1), (2, rV (xg X) v2), (3, .int v3)] 622 [] := by
        intro v1 v2 v3 w hf
        unfold f_L_622 at hf
        refine k_aload_n C dL_law_622 1 rfl rfl 623 rfl ?_
        refine k_aload_n C dL_law_623 0 rfl rfl 624 rfl ?_
        refine k_iload_n C dL_law_624 3 rfl 625 rfl ?_
        refine k_iconst C dL_law_625 (1) (by decide) 626 rfl ?_
        refine k_iadd C dL_law_626 627 rfl ?_
        refine k_sld C hX hbl hbA dL_law_627 hf 628 rfl (fun x348 hf => ?_)
        refine k_aload_n C dL_law_628 0 rfl rfl 629 rfl ?_
        refine k_iload_n C dL_law_629 3 rfl 630 rfl ?_
        refine k_iconst C dL_law_630 (2) (by decide) 631 rfl ?_
        refine k_iadd C dL_law_631 632 rfl ?_
        refine k_sld C hX hbl hbA dL_law_632 hf 633 rfl (fun x349 hf => ?_)
        refine k_callV_i C ye_X11_ship ve_L_89 ⟨rfl, rfl⟩ ⟨rfl, rfl⟩ dL_law_633 [.int x348, .int x349] rfl rfl (Nat.le_of_ble_eq_true rfl) (c_X11_ship _ _ _ _) hf 636 rfl (fun x351 w350 hf => ?_)
        refine k_aload_n C dL_law_636 2 rfl rfl 637 rfl ?_
        refine k_aload_n C dL_law_637 0 rfl rfl 638 rfl ?_
        refine k_iload_n C dL_law_638 3 rfl 639 rfl ?_
        refine k_iconst C dL_law_639 (1) (by decide) 640 rfl ?_
        refine k_iadd C dL_law_640 641 rfl ?_
        refine k_sld C hX hbl hbA dL_law_641 hf 642 rfl (fun x352 hf => ?_)
        refine k_aload_n C dL_law_642 0 rfl rfl 643 rfl ?_
        refine k_iload_n C dL_law_643 3 rfl 644 rfl ?_
        refine k_iconst C dL_law_644 (2) (by decide) 645 rfl ?_
        refine k_iadd C dL_law_645 646 rfl ?_
        refine k_sld C hX hbl hbA dL_law_646 hf 647 rfl (fun x353 hf => ?_)
        refine k_callV_i C ye_X12_ship ve_L_92 ⟨rfl, rfl⟩ ⟨rfl, rfl⟩ dL_law_647 [.int x352, .int x353] rfl rfl (Nat.le_of_ble_eq_true rfl) (c_X12_ship _ _ _ _) hf 650 rfl (fun x355 w354 hf => ?_)
        refine k_icmp_eq C dL_law_650 hf 1095 rfl 653 rfl (fun hf => ?_) (fun hf => ?_)
        · refine k_sub [0, 1, 2, 3] rfl ?_
          exact t_1095 _ _ _ w354 hf
        · refine k_iconst C dL_law_653 (0) (by decide) 654 rfl ?_
          exact absurd (congrArg Prod.fst (Option.some.inj hf)) (by decide : ¬ (0 : Int32) = 1)
      have t_589 : ∀ (v1 : Nat) (v2 : Nat) (v3 : Int32) (w : Wd), f_L_589 L sx (f_L_18 L sx n18) v1 v2 v3 w = some (1, wz) → Wk X 107 2912 (lw_Z (xb X) #[Value.ref b] (xs X)) w [(0, .ref b), (1, rV (xg X) v1), (2, rV (xg X) v2), (3, .int v3)] 589 [] := by
        intro v1 v2 v3 w hf
        unfold f_L_589 at hf
        refine k_aload_n C dL_law_589 1 rfl rfl 590 rfl ?_
        refine k_aload_n C dL_law_590 0 rfl rfl 591 rfl ?_
        refine k_iload_n C dL_law_591 3 rfl 592 rfl ?_
        refine k_iconst C dL_law_592 (1) (by decide) 593 rfl ?_
        refine k_iadd C dL_law_593 594 rfl ?_
        refine k_sld C hX hbl hbA dL_law_594 hf 595 rfl (fun x356 hf => ?_)
        refine k_aload_n C dL_law_595 0 rfl rfl 596 rfl ?_
        refine k_iload_n C dL_law_596 3 rfl 597 rfl ?_
        refine k_iconst C dL_law_597 (2) (by decide) 598 rfl ?_
        refine k_iadd C dL_law_598 599 rfl ?_
        refine k_sld C hX hbl hbA dL_law_599 hf 600 rfl (fun x357 hf => ?_)
        refine k_callV_i C ye_X11_best ve_L_85 ⟨rfl, rfl⟩ ⟨rfl, rfl⟩ dL_law_600 [.int x356, .int x357] rfl rfl (Nat.le_of_ble_eq_true rfl) (c_X11_best _ _ _ _) hf 603 rfl (fun x359 w358 hf => ?_)
        refine k_aload_n C dL_law_603 2 rfl rfl 604 rfl ?_
        refine k_aload_n C dL_law_604 0 rfl rfl 605 rfl ?_
        refine k_iload_n C dL_law_605 3 rfl 606 rfl ?_
        refine k_iconst C dL_law_606 (1) (by decide) 607 rfl ?_
        refine k_iadd C dL_law_607 608 rfl ?_
        refine k_sld C hX hbl hbA dL_law_608 hf 609 rfl (fun x360 hf => ?_)
        refine k_aload_n C dL_law_609 0 rfl rfl 610 rfl ?_
        refine k_iload_n C dL_law_610 3 rfl 611 rfl ?_
        refine k_iconst C dL_law_611 (2) (by decide) 612 rfl ?_
        refine k_iadd C dL_law_612 613 rfl ?_
        refine k_sld C hX hbl hbA dL_law_613 hf 614 rfl (fun x361 hf => ?_)
        refine k_callV_i C ye_X12_best ve_L_88 ⟨rfl, rfl⟩ ⟨rfl, rfl⟩ dL_law_614 [.int x360, .int x361] rfl rfl (Nat.le_of_ble_eq_true rfl) (c_X12_best _ _ _ _) hf 617 rfl (fun x363 w362 hf => ?_)
        refine k_icmp_eq C dL_law_617 hf 1095 rfl 620 rfl (fun hf => ?_) (fun hf => ?_)
        · refine k_sub [0, 1, 2, 3] rfl ?_
          exact t_1095 _ _ _ w362 hf
        · refine k_iconst C dL_law_620 (0) (by decide) 621 rfl ?_
          exact absurd (congrArg Prod.fst (Option.some.inj hf)) (by decide : ¬ (0 : Int32) = 1)
      have t_556 : ∀ (v1 : Nat) (v2 : Nat) (v3 : Int32) (w : Wd), f_L_556 L sx (f_L_18 L sx n18) v1 v2 v3 w = some (1, wz) → Wk X 107 2912 (lw_Z (xb X) #[Value.ref b] (xs X)) w [(0, .ref b), (1, rV (xg X) v1), (2, rV (xg X) v2), (3, .int v3)] 556 [] := by
        intro v1 v2 v3 w hf
        unfold f_L_556 at hf
        refine k_aload_n C dL_law_556 1 rfl rfl 557 rfl ?_
        refine k_aload_n C dL_law_557 0 rfl rfl 558 rfl ?_
        refine k_iload_n C dL_law_558 3 rfl 559 rfl ?_
        refine k_iconst C dL_law_559 (1) (by decide) 560 rfl ?_
        refine k_iadd C dL_law_560 561 rfl ?_
        refine k_sld C hX hbl hbA dL_law_561 hf 562 rfl (fun x364 hf => ?_)
        refine k_aload_n C dL_law_562 0 rfl rfl 563 rfl ?_
        refine k_iload_n C dL_law_563 3 rfl 564 rfl ?_
        refine k_iconst C dL_law_564 (2) (by decide) 565 rfl ?_
        refine k_iadd C dL_law_565 566 rfl ?_
        refine k_sld C hX hbl hbA dL_law_566 hf 567 rfl (fun x365 hf => ?_)
        refine k_callV_i C ye_X11_just ve_L_81 ⟨rfl, rfl⟩ ⟨rfl, rfl⟩ dL_law_567 [.int x364, .int x365] rfl rfl (Nat.le_of_ble_eq_true rfl) (c_X11_just _ _ _ _) hf 570 rfl (fun x367 w366 hf => ?_)
        refine k_aload_n C dL_law_570 2 rfl rfl 571 rfl ?_
        refine k_aload_n C dL_law_571 0 rfl rfl 572 rfl ?_
        refine k_iload_n C dL_law_572 3 rfl 573 rfl ?_
        refine k_iconst C dL_law_573 (1) (by decide) 574 rfl ?_
        refine k_iadd C dL_law_574 575 rfl ?_
        refine k_sld C hX hbl hbA dL_law_575 hf 576 rfl (fun x368 hf => ?_)
        refine k_aload_n C dL_law_576 0 rfl rfl 577 rfl ?_
        refine k_iload_n C dL_law_577 3 rfl 578 rfl ?_
        refine k_iconst C dL_law_578 (2) (by decide) 579 rfl ?_
        refine k_iadd C dL_law_579 580 rfl ?_
        refine k_sld C hX hbl hbA dL_law_580 hf 581 rfl (fun x369 hf => ?_)
        refine k_callV_i C ye_X12_just ve_L_84 ⟨rfl, rfl⟩ ⟨rfl, rfl⟩ dL_law_581 [.int x368, .int x369] rfl rfl (Nat.le_of_ble_eq_true rfl) (c_X12_just _ _ _ _) hf 584 rfl (fun x371 w370 hf => ?_)
        refine k_icmp_eq C dL_law_584 hf 1095 rfl 587 rfl (fun hf => ?_) (fun hf => ?_)
        · refine k_sub [0, 1, 2, 3] rfl ?_
          exact t_1095 _ _ _ w370 hf
        · refine k_iconst C dL_law_587 (0) (by decide) 588 rfl ?_
          exact absurd (congrArg Prod.fst (Option.some.inj hf)) (by decide : ¬ (0 : Int32) = 1)
      have t_543 : ∀ (v1 : Nat) (v2 : Nat) (v3 : Int32) (w : Wd), f_L_543 L sx (f_L_18 L sx n18) v1 v2 v3 w = some (1, wz) → Wk X 107 2912 (lw_Z (xb X) #[Value.ref b] (xs X)) w [(0, .ref b), (1, rV (xg X) v1), (2, rV (xg X) v2), (3, .int v3)] 543 [] := by
        intro v1 v2 v3 w hf
        unfold f_L_543 at hf
        refine k_aload_n C dL_law_543 1 rfl rfl 544 rfl ?_
        refine k_callV_i C ye_X11_full ve_L_77 ⟨rfl, rfl⟩ ⟨rfl, rfl⟩ dL_law_544 [] rfl rfl (Nat.le_of_ble_eq_true rfl) (c_X11_full _ _) hf 547 rfl (fun x373 w372 hf => ?_)
        refine k_aload_n C dL_law_547 2 rfl rfl 548 rfl ?_
        refine k_callV_i C ye_X12_full ve_L_80 ⟨rfl, rfl⟩ ⟨rfl, rfl⟩ dL_law_548 [] rfl rfl (Nat.le_of_ble_eq_true rfl) (c_X12_full _ _) hf 551 rfl (fun x375 w374 hf => ?_)
        refine k_icmp_eq C dL_law_551 hf 1095 rfl 554 rfl (fun hf => ?_) (fun hf => ?_)
        · refine k_sub [0, 1, 2, 3] rfl ?_
          exact t_1095 _ _ _ w374 hf
        · refine k_iconst C dL_law_554 (0) (by decide) 555 rfl ?_
          exact absurd (congrArg Prod.fst (Option.some.inj hf)) (by decide : ¬ (0 : Int32) = 1)
      have t_510 : ∀ (v1 : Nat) (v2 : Nat) (v3 : Int32) (w : Wd), f_L_510 L sx (f_L_18 L sx n18) v1 v2 v3 w = some (1, wz) → Wk X 107 2912 (lw_Z (xb X) #[Value.ref b] (xs X)) w [(0, .ref b), (1, rV (xg X) v1), (2, rV (xg X) v2), (3, .int v3)] 510 [] := by
        intro v1 v2 v3 w hf
        unfold f_L_510 at hf
        refine k_aload_n C dL_law_510 1 rfl rfl 511 rfl ?_
        refine k_aload_n C dL_law_511 0 rfl rfl 512 rfl ?_
        refine k_iload_n C dL_law_512 3 rfl 513 rfl ?_
        refine k_iconst C dL_law_513 (1) (by decide) 514 rfl ?_
        refine k_iadd C dL_law_514 515 rfl ?_
        refine k_sld C hX hbl hbA dL_law_515 hf 516 rfl (fun x376 hf => ?_)
        refine k_aload_n C dL_law_516 0 rfl rfl 517 rfl ?_
        refine k_iload_n C dL_law_517 3 rfl 518 rfl ?_
        refine k_iconst C dL_law_518 (2) (by decide) 519 rfl ?_
        refine k_iadd C dL_law_519 520 rfl ?_
        refine k_sld C hX hbl hbA dL_law_520 hf 521 rfl (fun x377 hf => ?_)
        refine k_callV_i C ye_X11_then ve_L_73 ⟨rfl, rfl⟩ ⟨rfl, rfl⟩ dL_law_521 [.int x376, .int x377] rfl rfl (Nat.le_of_ble_eq_true rfl) (c_X11_then _ _ _ _) hf 524 rfl (fun x379 w378 hf => ?_)
        refine k_aload_n C dL_law_524 2 rfl rfl 525 rfl ?_
        refine k_aload_n C dL_law_525 0 rfl rfl 526 rfl ?_
        refine k_iload_n C dL_law_526 3 rfl 527 rfl ?_
        refine k_iconst C dL_law_527 (1) (by decide) 528 rfl ?_
        refine k_iadd C dL_law_528 529 rfl ?_
        refine k_sld C hX hbl hbA dL_law_529 hf 530 rfl (fun x380 hf => ?_)
        refine k_aload_n C dL_law_530 0 rfl rfl 531 rfl ?_
        refine k_iload_n C dL_law_531 3 rfl 532 rfl ?_
        refine k_iconst C dL_law_532 (2) (by decide) 533 rfl ?_
        refine k_iadd C dL_law_533 534 rfl ?_
        refine k_sld C hX hbl hbA dL_law_534 hf 535 rfl (fun x381 hf => ?_)
        refine k_callV_i C ye_X12_then ve_L_76 ⟨rfl, rfl⟩ ⟨rfl, rfl⟩ dL_law_535 [.int x380, .int x381] rfl rfl (Nat.le_of_ble_eq_true rfl) (c_X12_then _ _ _ _) hf 538 rfl (fun x383 w382 hf => ?_)
        refine k_icmp_eq C dL_law_538 hf 1095 rfl 541 rfl (fun hf => ?_) (fun hf => ?_)
        · refine k_sub [0, 1, 2, 3] rfl ?_
          exact t_1095 _ _ _ w382 hf
        · refine k_iconst C dL_law_541 (0) (by decide) 542 rfl ?_
          exact absurd (congrArg Prod.fst (Option.some.inj hf)) (by decide : ¬ (0 : Int32) = 1)
      have t_497 : ∀ (v1 : Nat) (v2 : Nat) (v3 : Int32) (w : Wd), f_L_497 L sx (f_L_18 L sx n18) v1 v2 v3 w = some (1, wz) → Wk X 107 2912 (lw_Z (xb X) #[Value.ref b] (xs X)) w [(0, .ref b), (1, rV (xg X) v1), (2, rV (xg X) v2), (3, .int v3)] 497 [] := by
        intro v1 v2 v3 w hf
        unfold f_L_497 at hf
        refine k_aload_n C dL_law_497 1 rfl rfl 498 rfl ?_
        refine k_callV_i C ye_X11_grinds ve_L_69 ⟨rfl, rfl⟩ ⟨rfl, rfl⟩ dL_law_498 [] rfl rfl (Nat.le_of_ble_eq_true rfl) (c_X11_grinds _ _) hf 501 rfl (fun x385 w384 hf => ?_)
        refine k_aload_n C dL_law_501 2 rfl rfl 502 rfl ?_
        refine k_callV_i C ye_X12_grinds ve_L_72 ⟨rfl, rfl⟩ ⟨rfl, rfl⟩ dL_law_502 [] rfl rfl (Nat.le_of_ble_eq_true rfl) (c_X12_grinds _ _) hf 505 rfl (fun x387 w386 hf => ?_)
        refine k_icmp_eq C dL_law_505 hf 1095 rfl 508 rfl (fun hf => ?_) (fun hf => ?_)
        · refine k_sub [0, 1, 2, 3] rfl ?_
          exact t_1095 _ _ _ w386 hf
        · refine k_iconst C dL_law_508 (0) (by decide) 509 rfl ?_
          exact absurd (congrArg Prod.fst (Option.some.inj hf)) (by decide : ¬ (0 : Int32) = 1)
      have t_464 : ∀ (v1 : Nat) (v2 : Nat) (v3 : Int32) (w : Wd), f_L_464 L sx (f_L_18 L sx n18) v1 v2 v3 w = some (1, wz) → Wk X 107 2912 (lw_Z (xb X) #[Value.ref b] (xs X)) w [(0, .ref b), (1, rV (xg X) v1), (2, rV (xg X) v2), (3, .int v3)] 464 [] := by
        intro v1 v2 v3 w hf
        unfold f_L_464 at hf
        refine k_aload_n C dL_law_464 1 rfl rfl 465 rfl ?_
        refine k_aload_n C dL_law_465 0 rfl rfl 466 rfl ?_
        refine k_iload_n C dL_law_466 3 rfl 467 rfl ?_
        refine k_iconst C dL_law_467 (1) (by decide) 468 rfl ?_
        refine k_iadd C dL_law_468 469 rfl ?_
        refine k_sld C hX hbl hbA dL_law_469 hf 470 rfl (fun x388 hf => ?_)
        refine k_aload_n C dL_law_470 0 rfl rfl 471 rfl ?_
        refine k_iload_n C dL_law_471 3 rfl 472 rfl ?_
        refine k_iconst C dL_law_472 (2) (by decide) 473 rfl ?_
        refine k_iadd C dL_law_473 474 rfl ?_
        refine k_sld C hX hbl hbA dL_law_474 hf 475 rfl (fun x389 hf => ?_)
        refine k_callV_i C ye_X11_of ve_L_65 ⟨rfl, rfl⟩ ⟨rfl, rfl⟩ dL_law_475 [.int x388, .int x389] rfl rfl (Nat.le_of_ble_eq_true rfl) (c_X11_of _ _ _ _) hf 478 rfl (fun x391 w390 hf => ?_)
        refine k_aload_n C dL_law_478 2 rfl rfl 479 rfl ?_
        refine k_aload_n C dL_law_479 0 rfl rfl 480 rfl ?_
        refine k_iload_n C dL_law_480 3 rfl 481 rfl ?_
        refine k_iconst C dL_law_481 (1) (by decide) 482 rfl ?_
        refine k_iadd C dL_law_482 483 rfl ?_
        refine k_sld C hX hbl hbA dL_law_483 hf 484 rfl (fun x392 hf => ?_)
        refine k_aload_n C dL_law_484 0 rfl rfl 485 rfl ?_
        refine k_iload_n C dL_law_485 3 rfl 486 rfl ?_
        refine k_iconst C dL_law_486 (2) (by decide) 487 rfl ?_
        refine k_iadd C dL_law_487 488 rfl ?_
        refine k_sld C hX hbl hbA dL_law_488 hf 489 rfl (fun x393 hf => ?_)
        refine k_callV_i C ye_X12_of ve_L_68 ⟨rfl, rfl⟩ ⟨rfl, rfl⟩ dL_law_489 [.int x392, .int x393] rfl rfl (Nat.le_of_ble_eq_true rfl) (c_X12_of _ _ _ _) hf 492 rfl (fun x395 w394 hf => ?_)
        refine k_icmp_eq C dL_law_492 hf 1095 rfl 495 rfl (fun hf => ?_) (fun hf => ?_)
        · refine k_sub [0, 1, 2, 3] rfl ?_
          exact t_1095 _ _ _ w394 hf
        · refine k_iconst C dL_law_495 (0) (by decide) 496 rfl ?_
          exact absurd (congrArg Prod.fst (Option.some.inj hf)) (by decide : ¬ (0 : Int32) = 1)
      have t_451 : ∀ (v1 : Nat) (v2 : Nat) (v3 : Int32) (w : Wd), f_L_451 L sx (f_L_18 L sx n18) v1 v2 v3 w = some (1, wz) → Wk X 107 2912 (lw_Z (xb X) #[Value.ref b] (xs X)) w [(0, .ref b), (1, rV (xg X) v1), (2, rV (xg X) v2), (3, .int v3)] 451 [] := by
        intro v1 v2 v3 w hf
        unfold f_L_451 at hf
        refine k_aload_n C dL_law_451 1 rfl rfl 452 rfl ?_
        refine k_callV_i C ye_X11_undo ve_L_61 ⟨rfl, rfl⟩ ⟨rfl, rfl⟩ dL_law_452 [] rfl rfl (Nat.le_of_ble_eq_true rfl) (c_X11_undo _ _) hf 455 rfl (fun x397 w396 hf => ?_)
        refine k_aload_n C dL_law_455 2 rfl rfl 456 rfl ?_
        refine k_callV_i C ye_X12_undo ve_L_64 ⟨rfl, rfl⟩ ⟨rfl, rfl⟩ dL_law_456 [] rfl rfl (Nat.le_of_ble_eq_true rfl) (c_X12_undo _ _) hf 459 rfl (fun x399 w398 hf => ?_)
        refine k_icmp_eq C dL_law_459 hf 1095 rfl 462 rfl (fun hf => ?_) (fun hf => ?_)
        · refine k_sub [0, 1, 2, 3] rfl ?_
          exact t_1095 _ _ _ w398 hf
        · refine k_iconst C dL_law_462 (0) (by decide) 463 rfl ?_
          exact absurd (congrArg Prod.fst (Option.some.inj hf)) (by decide : ¬ (0 : Int32) = 1)
      have t_428 : ∀ (v1 : Nat) (v2 : Nat) (v3 : Int32) (w : Wd), f_L_428 L sx (f_L_18 L sx n18) v1 v2 v3 w = some (1, wz) → Wk X 107 2912 (lw_Z (xb X) #[Value.ref b] (xs X)) w [(0, .ref b), (1, rV (xg X) v1), (2, rV (xg X) v2), (3, .int v3)] 428 [] := by
        intro v1 v2 v3 w hf
        unfold f_L_428 at hf
        refine k_aload_n C dL_law_428 1 rfl rfl 429 rfl ?_
        refine k_aload_n C dL_law_429 0 rfl rfl 430 rfl ?_
        refine k_iload_n C dL_law_430 3 rfl 431 rfl ?_
        refine k_iconst C dL_law_431 (1) (by decide) 432 rfl ?_
        refine k_iadd C dL_law_432 433 rfl ?_
        refine k_sld C hX hbl hbA dL_law_433 hf 434 rfl (fun x400 hf => ?_)
        refine k_callV_i C ye_X11_cold ve_L_57 ⟨rfl, rfl⟩ ⟨rfl, rfl⟩ dL_law_434 [.int x400] rfl rfl (Nat.le_of_ble_eq_true rfl) (c_X11_cold _ _ _) hf 437 rfl (fun x402 w401 hf => ?_)
        refine k_aload_n C dL_law_437 2 rfl rfl 438 rfl ?_
        refine k_aload_n C dL_law_438 0 rfl rfl 439 rfl ?_
        refine k_iload_n C dL_law_439 3 rfl 440 rfl ?_
        refine k_iconst C dL_law_440 (1) (by decide) 441 rfl ?_
        refine k_iadd C dL_law_441 442 rfl ?_
        refine k_sld C hX hbl hbA dL_law_442 hf 443 rfl (fun x403 hf => ?_)
        refine k_callV_i C ye_X12_cold ve_L_60 ⟨rfl, rfl⟩ ⟨rfl, rfl⟩ dL_law_443 [.int x403] rfl rfl (Nat.le_of_ble_eq_true rfl) (c_X12_cold _ _ _) hf 446 rfl (fun x405 w404 hf => ?_)
        refine k_icmp_eq C dL_law_446 hf 1095 rfl 449 rfl (fun hf => ?_) (fun hf => ?_)
        · refine k_sub [0, 1, 2, 3] rfl ?_
          exact t_1095 _ _ _ w404 hf
        · refine k_iconst C dL_law_449 (0) (by decide) 450 rfl ?_
          exact absurd (congrArg Prod.fst (Option.some.inj hf)) (by decide : ¬ (0 : Int32) = 1)
      have t_395 : ∀ (v1 : Nat) (v2 : Nat) (v3 : Int32) (w : Wd), f_L_395 L sx (f_L_18 L sx n18) v1 v2 v3 w = some (1, wz) → Wk X 107 2912 (lw_Z (xb X) #[Value.ref b] (xs X)) w [(0, .ref b), (1, rV (xg X) v1), (2, rV (xg X) v2), (3, .int v3)] 395 [] := by
        intro v1 v2 v3 w hf
        unfold f_L_395 at hf
        refine k_aload_n C dL_law_395 1 rfl rfl 396 rfl ?_
        refine k_aload_n C dL_law_396 0 rfl rfl 397 rfl ?_
        refine k_iload_n C dL_law_397 3 rfl 398 rfl ?_
        refine k_iconst C dL_law_398 (1) (by decide) 399 rfl ?_
        refine k_iadd C dL_law_399 400 rfl ?_
        refine k_sld C hX hbl hbA dL_law_400 hf 401 rfl (fun x406 hf => ?_)
        refine k_aload_n C dL_law_401 0 rfl rfl 402 rfl ?_
        refine k_iload_n C dL_law_402 3 rfl 403 rfl ?_
        refine k_iconst C dL_law_403 (2) (by decide) 404 rfl ?_
        refine k_iadd C dL_law_404 405 rfl ?_
        refine k_sld C hX hbl hbA dL_law_405 hf 406 rfl (fun x407 hf => ?_)
        refine k_callV_i C ye_X11_sell ve_L_52 ⟨rfl, rfl⟩ ⟨rfl, rfl⟩ dL_law_406 [.int x406, .int x407] rfl rfl (Nat.le_of_ble_eq_true rfl) (c_X11_sell _ _ _ _) hf 409 rfl (fun x409 w408 hf => ?_)
        refine k_aload_n C dL_law_409 2 rfl rfl 410 rfl ?_
        refine k_aload_n C dL_law_410 0 rfl rfl 411 rfl ?_
        refine k_iload_n C dL_law_411 3 rfl 412 rfl ?_
        refine k_iconst C dL_law_412 (1) (by decide) 413 rfl ?_
        refine k_iadd C dL_law_413 414 rfl ?_
        refine k_sld C hX hbl hbA dL_law_414 hf 415 rfl (fun x410 hf => ?_)
        refine k_aload_n C dL_law_415 0 rfl rfl 416 rfl ?_
        refine k_iload_n C dL_law_416 3 rfl 417 rfl ?_
        refine k_iconst C dL_law_417 (2) (by decide) 418 rfl ?_
        refine k_iadd C dL_law_418 419 rfl ?_
        refine k_sld C hX hbl hbA dL_law_419 hf 420 rfl (fun x411 hf => ?_)
        refine k_callV_i C ye_X12_sell ve_L_56 ⟨rfl, rfl⟩ ⟨rfl, rfl⟩ dL_law_420 [.int x410, .int x411] rfl rfl (Nat.le_of_ble_eq_true rfl) (c_X12_sell _ _ _ _) hf 423 rfl (fun x413 w412 hf => ?_)
        refine k_icmp_eq C dL_law_423 hf 1095 rfl 426 rfl (fun hf => ?_) (fun hf => ?_)
        · refine k_sub [0, 1, 2, 3] rfl ?_
          exact t_1095 _ _ _ w412 hf
        · refine k_iconst C dL_law_426 (0) (by decide) 427 rfl ?_
          exact absurd (congrArg Prod.fst (Option.some.inj hf)) (by decide : ¬ (0 : Int32) = 1)
      have t_372 : ∀ (v1 : Nat) (v2 : Nat) (v3 : Int32) (w : Wd), f_L_372 L sx (f_L_18 L sx n18) v1 v2 v3 w = some (1, wz) → Wk X 107 2912 (lw_Z (xb X) #[Value.ref b] (xs X)) w [(0, .ref b), (1, rV (xg X) v1), (2, rV (xg X) v2), (3, .int v3)] 372 [] := by
        intro v1 v2 v3 w hf
        unfold f_L_372 at hf
        refine k_aload_n C dL_law_372 1 rfl rfl 373 rfl ?_
        refine k_aload_n C dL_law_373 0 rfl rfl 374 rfl ?_
        refine k_iload_n C dL_law_374 3 rfl 375 rfl ?_
        refine k_iconst C dL_law_375 (1) (by decide) 376 rfl ?_
        refine k_iadd C dL_law_376 377 rfl ?_
        refine k_sld C hX hbl hbA dL_law_377 hf 378 rfl (fun x414 hf => ?_)
        refine k_callV_i C ye_X11_say ve_L_48 ⟨rfl, rfl⟩ ⟨rfl, rfl⟩ dL_law_378 [.int x414] rfl rfl (Nat.le_of_ble_eq_true rfl) (c_X11_say _ _ _) hf 381 rfl (fun x416 w415 hf => ?_)
        refine k_aload_n C dL_law_381 2 rfl rfl 382 rfl ?_
        refine k_aload_n C dL_law_382 0 rfl rfl 383 rfl ?_
        refine k_iload_n C dL_law_383 3 rfl 384 rfl ?_
        refine k_iconst C dL_law_384 (1) (by decide) 385 rfl ?_
        refine k_iadd C dL_law_385 386 rfl ?_
        refine k_sld C hX hbl hbA dL_law_386 hf 387 rfl (fun x417 hf => ?_)
        refine k_callV_i C ye_X12_say ve_L_51 ⟨rfl, rfl⟩ ⟨rfl, rfl⟩ dL_law_387 [.int x417] rfl rfl (Nat.le_of_ble_eq_true rfl) (c_X12_say _ _ _) hf 390 rfl (fun x419 w418 hf => ?_)
        refine k_icmp_eq C dL_law_390 hf 1095 rfl 393 rfl (fun hf => ?_) (fun hf => ?_)
        · refine k_sub [0, 1, 2, 3] rfl ?_
          exact t_1095 _ _ _ w418 hf
        · refine k_iconst C dL_law_393 (0) (by decide) 394 rfl ?_
          exact absurd (congrArg Prod.fst (Option.some.inj hf)) (by decide : ¬ (0 : Int32) = 1)
      have t_349 : ∀ (v1 : Nat) (v2 : Nat) (v3 : Int32) (w : Wd), f_L_349 L sx (f_L_18 L sx n18) v1 v2 v3 w = some (1, wz) → Wk X 107 2912 (lw_Z (xb X) #[Value.ref b] (xs X)) w [(0, .ref b), (1, rV (xg X) v1), (2, rV (xg X) v2), (3, .int v3)] 349 [] := by
        intro v1 v2 v3 w hf
        unfold f_L_349 at hf
        refine k_aload_n C dL_law_349 1 rfl rfl 350 rfl ?_
        refine k_aload_n C dL_law_350 0 rfl rfl 351 rfl ?_
        refine k_iload_n C dL_law_351 3 rfl 352 rfl ?_
        refine k_iconst C dL_law_352 (1) (by decide) 353 rfl ?_
        refine k_iadd C dL_law_353 354 rfl ?_
        refine k_sld C hX hbl hbA dL_law_354 hf 355 rfl (fun x420 hf => ?_)
        refine k_callV_i C ye_X11_hour ve_L_44 ⟨rfl, rfl⟩ ⟨rfl, rfl⟩ dL_law_355 [.int x420] rfl rfl (Nat.le_of_ble_eq_true rfl) (c_X11_hour _ _ _) hf 358 rfl (fun x422 w421 hf => ?_)
        refine k_aload_n C dL_law_358 2 rfl rfl 359 rfl ?_
        refine k_aload_n C dL_law_359 0 rfl rfl 360 rfl ?_
        refine k_iload_n C dL_law_360 3 rfl 361 rfl ?_
        refine k_iconst C dL_law_361 (1) (by decide) 362 rfl ?_
        refine k_iadd C dL_law_362 363 rfl ?_
        refine k_sld C hX hbl hbA dL_law_363 hf 364 rfl (fun x423 hf => ?_)
        refine k_callV_i C ye_X12_hour ve_L_47 ⟨rfl, rfl⟩ ⟨rfl, rfl⟩ dL_law_364 [.int x423] rfl rfl (Nat.le_of_ble_eq_true rfl) (c_X12_hour _ _ _) hf 367 rfl (fun x425 w424 hf => ?_)
        refine k_icmp_eq C dL_law_367 hf 1095 rfl 370 rfl (fun hf => ?_) (fun hf => ?_)
        · refine k_sub [0, 1, 2, 3] rfl ?_
          exact t_1095 _ _ _ w424 hf
        · refine k_iconst C dL_law_370 (0) (by decide) 371 rfl ?_
          exact absurd (congrArg Prod.fst (Option.some.inj hf)) (by decide : ¬ (0 : Int32) = 1)
      have t_326 : ∀ (v1 : Nat) (v2 : Nat) (v3 : Int32) (w : Wd), f_L_326 L sx (f_L_18 L sx n18) v1 v2 v3 w = some (1, wz) → Wk X 107 2912 (lw_Z (xb X) #[Value.ref b] (xs X)) w [(0, .ref b), (1, rV (xg X) v1), (2, rV (xg X) v2), (3, .int v3)] 326 [] := by
        intro v1 v2 v3 w hf
        unfold f_L_326 at hf
        refine k_aload_n C dL_law_326 1 rfl rfl 327 rfl ?_
        refine k_aload_n C dL_law_327 0 rfl rfl 328 rfl ?_
        refine k_iload_n C dL_law_328 3 rfl 329 rfl ?_
        refine k_iconst C dL_law_329 (1) (by decide) 330 rfl ?_
        refine k_iadd C dL_law_330 331 rfl ?_
        refine k_sld C hX hbl hbA dL_law_331 hf 332 rfl (fun x426 hf => ?_)
        refine k_callV_i C ye_X11_grind ve_L_40 ⟨rfl, rfl⟩ ⟨rfl, rfl⟩ dL_law_332 [.int x426] rfl rfl (Nat.le_of_ble_eq_true rfl) (c_X11_grind _ _ _) hf 335 rfl (fun x428 w427 hf => ?_)
        refine k_aload_n C dL_law_335 2 rfl rfl 336 rfl ?_
        refine k_aload_n C dL_law_336 0 rfl rfl 337 rfl ?_
        refine k_iload_n C dL_law_337 3 rfl 338 rfl ?_
        refine k_iconst C dL_law_338 (1) (by decide) 339 rfl ?_
        refine k_iadd C dL_law_339 340 rfl ?_
        refine k_sld C hX hbl hbA dL_law_340 hf 341 rfl (fun x429 hf => ?_)
        refine k_callV_i C ye_X12_grind ve_L_43 ⟨rfl, rfl⟩ ⟨rfl, rfl⟩ dL_law_341 [.int x429] rfl rfl (Nat.le_of_ble_eq_true rfl) (c_X12_grind _ _ _) hf 344 rfl (fun x431 w430 hf => ?_)
        refine k_icmp_eq C dL_law_344 hf 1095 rfl 347 rfl (fun hf => ?_) (fun hf => ?_)
        · refine k_sub [0, 1, 2, 3] rfl ?_
          exact t_1095 _ _ _ w430 hf
        · refine k_iconst C dL_law_347 (0) (by decide) 348 rfl ?_
          exact absurd (congrArg Prod.fst (Option.some.inj hf)) (by decide : ¬ (0 : Int32) = 1)
      have t_313 : ∀ (v1 : Nat) (v2 : Nat) (v3 : Int32) (w : Wd), f_L_313 L sx (f_L_18 L sx n18) v1 v2 v3 w = some (1, wz) → Wk X 107 2912 (lw_Z (xb X) #[Value.ref b] (xs X)) w [(0, .ref b), (1, rV (xg X) v1), (2, rV (xg X) v2), (3, .int v3)] 313 [] := by
        intro v1 v2 v3 w hf
        unfold f_L_313 at hf
        refine k_aload_n C dL_law_313 1 rfl rfl 314 rfl ?_
        refine k_callV_i C ye_X11_read ve_L_36 ⟨rfl, rfl⟩ ⟨rfl, rfl⟩ dL_law_314 [] rfl rfl (Nat.le_of_ble_eq_true rfl) (c_X11_read _ _) hf 317 rfl (fun x433 w432 hf => ?_)
        refine k_aload_n C dL_law_317 2 rfl rfl 318 rfl ?_
        refine k_callV_i C ye_X12_read ve_L_39 ⟨rfl, rfl⟩ ⟨rfl, rfl⟩ dL_law_318 [] rfl rfl (Nat.le_of_ble_eq_true rfl) (c_X12_read _ _) hf 321 rfl (fun x435 w434 hf => ?_)
        refine k_icmp_eq C dL_law_321 hf 1095 rfl 324 rfl (fun hf => ?_) (fun hf => ?_)
        · refine k_sub [0, 1, 2, 3] rfl ?_
          exact t_1095 _ _ _ w434 hf
        · refine k_iconst C dL_law_324 (0) (by decide) 325 rfl ?_
          exact absurd (congrArg Prod.fst (Option.some.inj hf)) (by decide : ¬ (0 : Int32) = 1)
      have t_300 : ∀ (v1 : Nat) (v2 : Nat) (v3 : Int32) (w : Wd), f_L_300 L sx (f_L_18 L sx n18) v1 v2 v3 w = some (1, wz) → Wk X 107 2912 (lw_Z (xb X) #[Value.ref b] (xs X)) w [(0, .ref b), (1, rV (xg X) v1), (2, rV (xg X) v2), (3, .int v3)] 300 [] := by
        intro v1 v2 v3 w hf
        unfold f_L_300 at hf
        refine k_aload_n C dL_law_300 1 rfl rfl 301 rfl ?_
        refine k_callV_i C ye_X11_clear ve_L_31 ⟨rfl, rfl⟩ ⟨rfl, rfl⟩ dL_law_301 [] rfl rfl (Nat.le_of_ble_eq_true rfl) (c_X11_clear _ _) hf 304 rfl (fun x437 w436 hf => ?_)
        refine k_aload_n C dL_law_304 2 rfl rfl 305 rfl ?_
        refine k_callV_i C ye_X12_clear ve_L_35 ⟨rfl, rfl⟩ ⟨rfl, rfl⟩ dL_law_305 [] rfl rfl (Nat.le_of_ble_eq_true rfl) (c_X12_clear _ _) hf 308 rfl (fun x439 w438 hf => ?_)
        refine k_icmp_eq C dL_law_308 hf 1095 rfl 311 rfl (fun hf => ?_) (fun hf => ?_)
        · refine k_sub [0, 1, 2, 3] rfl ?_
          exact t_1095 _ _ _ w438 hf
        · refine k_iconst C dL_law_311 (0) (by decide) 312 rfl ?_
          exact absurd (congrArg Prod.fst (Option.some.inj hf)) (by decide : ¬ (0 : Int32) = 1)
      have t_277 : ∀ (v1 : Nat) (v2 : Nat) (v3 : Int32) (w : Wd), f_L_277 L sx (f_L_18 L sx n18) v1 v2 v3 w = some (1, wz) → Wk X 107 2912 (lw_Z (xb X) #[Value.ref b] (xs X)) w [(0, .ref b), (1, rV (xg X) v1), (2, rV (xg X) v2), (3, .int v3)] 277 [] := by
        intro v1 v2 v3 w hf
        unfold f_L_277 at hf
        refine k_aload_n C dL_law_277 1 rfl rfl 278 rfl ?_
        refine k_aload_n C dL_law_278 0 rfl rfl 279 rfl ?_
        refine k_iload_n C dL_law_279 3 rfl 280 rfl ?_
        refine k_iconst C dL_law_280 (1) (by decide) 281 rfl ?_
        refine k_iadd C dL_law_281 282 rfl ?_
        refine k_sld C hX hbl hbA dL_law_282 hf 283 rfl (fun x440 hf => ?_)
        refine k_callV_i C ye_X11_type ve_L_27 ⟨rfl, rfl⟩ ⟨rfl, rfl⟩ dL_law_283 [.int x440] rfl rfl (Nat.le_of_ble_eq_true rfl) (c_X11_type _ _ _) hf 286 rfl (fun x442 w441 hf => ?_)
        refine k_aload_n C dL_law_286 2 rfl rfl 287 rfl ?_
        refine k_aload_n C dL_law_287 0 rfl rfl 288 rfl ?_
        refine k_iload_n C dL_law_288 3 rfl 289 rfl ?_
        refine k_iconst C dL_law_289 (1) (by decide) 290 rfl ?_
        refine k_iadd C dL_law_290 291 rfl ?_
        refine k_sld C hX hbl hbA dL_law_291 hf 292 rfl (fun x443 hf => ?_)
        refine k_callV_i C ye_X12_type ve_L_30 ⟨rfl, rfl⟩ ⟨rfl, rfl⟩ dL_law_292 [.int x443] rfl rfl (Nat.le_of_ble_eq_true rfl) (c_X12_type _ _ _) hf 295 rfl (fun x445 w444 hf => ?_)
        refine k_icmp_eq C dL_law_295 hf 1095 rfl 298 rfl (fun hf => ?_) (fun hf => ?_)
        · refine k_sub [0, 1, 2, 3] rfl ?_
          exact t_1095 _ _ _ w444 hf
        · refine k_iconst C dL_law_298 (0) (by decide) 299 rfl ?_
          exact absurd (congrArg Prod.fst (Option.some.inj hf)) (by decide : ¬ (0 : Int32) = 1)
      have t_254 : ∀ (v1 : Nat) (v2 : Nat) (v3 : Int32) (w : Wd), f_L_254 L sx (f_L_18 L sx n18) v1 v2 v3 w = some (1, wz) → Wk X 107 2912 (lw_Z (xb X) #[Value.ref b] (xs X)) w [(0, .ref b), (1, rV (xg X) v1), (2, rV (xg X) v2), (3, .int v3)] 254 [] := by
        intro v1 v2 v3 w hf
        unfold f_L_254 at hf
        refine k_aload_n C dL_law_254 1 rfl rfl 255 rfl ?_
        refine k_aload_n C dL_law_255 0 rfl rfl 256 rfl ?_
        refine k_iload_n C dL_law_256 3 rfl 257 rfl ?_
        refine k_iconst C dL_law_257 (1) (by decide) 258 rfl ?_
        refine k_iadd C dL_law_258 259 rfl ?_
        refine k_sld C hX hbl hbA dL_law_259 hf 260 rfl (fun x446 hf => ?_)
        refine k_callV_i C ye_X11_word ve_L_23 ⟨rfl, rfl⟩ ⟨rfl, rfl⟩ dL_law_260 [.int x446] rfl rfl (Nat.le_of_ble_eq_true rfl) (c_X11_word _ _ _) hf 263 rfl (fun x448 w447 hf => ?_)
        refine k_aload_n C dL_law_263 2 rfl rfl 264 rfl ?_
        refine k_aload_n C dL_law_264 0 rfl rfl 265 rfl ?_
        refine k_iload_n C dL_law_265 3 rfl 266 rfl ?_
        refine k_iconst C dL_law_266 (1) (by decide) 267 rfl ?_
        refine k_iadd C dL_law_267 268 rfl ?_
        refine k_sld C hX hbl hbA dL_law_268 hf 269 rfl (fun x449 hf => ?_)
        refine k_callV_i C ye_X12_word ve_L_26 ⟨rfl, rfl⟩ ⟨rfl, rfl⟩ dL_law_269 [.int x449] rfl rfl (Nat.le_of_ble_eq_true rfl) (c_X12_word _ _ _) hf 272 rfl (fun x451 w450 hf => ?_)
        refine k_icmp_eq C dL_law_272 hf 1095 rfl 275 rfl (fun hf => ?_) (fun hf => ?_)
        · refine k_sub [0, 1, 2, 3] rfl ?_
          exact t_1095 _ _ _ w450 hf
        · refine k_iconst C dL_law_275 (0) (by decide) 276 rfl ?_
          exact absurd (congrArg Prod.fst (Option.some.inj hf)) (by decide : ¬ (0 : Int32) = 1)
      have t_211 : ∀ (v1 : Nat) (v2 : Nat) (v3 : Int32) (w : Wd), f_L_211 L sx (f_L_18 L sx n18) v1 v2 v3 w = some (1, wz) → Wk X 107 2912 (lw_Z (xb X) #[Value.ref b] (xs X)) w [(0, .ref b), (1, rV (xg X) v1), (2, rV (xg X) v2), (3, .int v3)] 211 [] := by
        intro v1 v2 v3 w hf
        unfold f_L_211 at hf
        refine k_aload_n C dL_law_211 1 rfl rfl 212 rfl ?_
        refine k_aload_n C dL_law_212 0 rfl rfl 213 rfl ?_
        refine k_iload_n C dL_law_213 3 rfl 214 rfl ?_
        refine k_iconst C dL_law_214 (1) (by decide) 215 rfl ?_
        refine k_iadd C dL_law_215 216 rfl ?_
        refine k_sld C hX hbl hbA dL_law_216 hf 217 rfl (fun x452 hf => ?_)
        refine k_aload_n C dL_law_217 0 rfl rfl 218 rfl ?_
        refine k_iload_n C dL_law_218 3 rfl 219 rfl ?_
        refine k_iconst C dL_law_219 (2) (by decide) 220 rfl ?_
        refine k_iadd C dL_law_220 221 rfl ?_
        refine k_sld C hX hbl hbA dL_law_221 hf 222 rfl (fun x453 hf => ?_)
        refine k_aload_n C dL_law_222 0 rfl rfl 223 rfl ?_
        refine k_iload_n C dL_law_223 3 rfl 224 rfl ?_
        refine k_iconst C dL_law_224 (3) (by decide) 225 rfl ?_
        refine k_iadd C dL_law_225 226 rfl ?_
        refine k_sld C hX hbl hbA dL_law_226 hf 227 rfl (fun x454 hf => ?_)
        refine k_callV_i C ye_X11_goods ve_L_18 ⟨rfl, rfl⟩ ⟨rfl, rfl⟩ dL_law_227 [.int x452, .int x453, .int x454] rfl rfl (Nat.le_of_ble_eq_true rfl) (c_X11_goods _ _ _ _ _) hf 230 rfl (fun x456 w455 hf => ?_)
        refine k_aload_n C dL_law_230 2 rfl rfl 231 rfl ?_
        refine k_aload_n C dL_law_231 0 rfl rfl 232 rfl ?_
        refine k_iload_n C dL_law_232 3 rfl 233 rfl ?_
        refine k_iconst C dL_law_233 (1) (by decide) 234 rfl ?_
        refine k_iadd C dL_law_234 235 rfl ?_
        refine k_sld C hX hbl hbA dL_law_235 hf 236 rfl (fun x457 hf => ?_)
        refine k_aload_n C dL_law_236 0 rfl rfl 237 rfl ?_
        refine k_iload_n C dL_law_237 3 rfl 238 rfl ?_
        refine k_iconst C dL_law_238 (2) (by decide) 239 rfl ?_
        refine k_iadd C dL_law_239 240 rfl ?_
        refine k_sld C hX hbl hbA dL_law_240 hf 241 rfl (fun x458 hf => ?_)
        refine k_aload_n C dL_law_241 0 rfl rfl 242 rfl ?_
        refine k_iload_n C dL_law_242 3 rfl 243 rfl ?_
        refine k_iconst C dL_law_243 (3) (by decide) 244 rfl ?_
        refine k_iadd C dL_law_244 245 rfl ?_
        refine k_sld C hX hbl hbA dL_law_245 hf 246 rfl (fun x459 hf => ?_)
        refine k_callV_i C ye_X12_goods ve_L_22 ⟨rfl, rfl⟩ ⟨rfl, rfl⟩ dL_law_246 [.int x457, .int x458, .int x459] rfl rfl (Nat.le_of_ble_eq_true rfl) (c_X12_goods _ _ _ _ _) hf 249 rfl (fun x461 w460 hf => ?_)
        refine k_icmp_eq C dL_law_249 hf 1095 rfl 252 rfl (fun hf => ?_) (fun hf => ?_)
        · refine k_sub [0, 1, 2, 3] rfl ?_
          exact t_1095 _ _ _ w460 hf
        · refine k_iconst C dL_law_252 (0) (by decide) 253 rfl ?_
          exact absurd (congrArg Prod.fst (Option.some.inj hf)) (by decide : ¬ (0 : Int32) = 1)
      have t_188 : ∀ (v1 : Nat) (v2 : Nat) (v3 : Int32) (w : Wd), f_L_188 L sx (f_L_18 L sx n18) v1 v2 v3 w = some (1, wz) → Wk X 107 2912 (lw_Z (xb X) #[Value.ref b] (xs X)) w [(0, .ref b), (1, rV (xg X) v1), (2, rV (xg X) v2), (3, .int v3)] 188 [] := by
        intro v1 v2 v3 w hf
        unfold f_L_188 at hf
        refine k_aload_n C dL_law_188 1 rfl rfl 189 rfl ?_
        refine k_aload_n C dL_law_189 0 rfl rfl 190 rfl ?_
        refine k_iload_n C dL_law_190 3 rfl 191 rfl ?_
        refine k_iconst C dL_law_191 (1) (by decide) 192 rfl ?_
        refine k_iadd C dL_law_192 193 rfl ?_
        refine k_sld C hX hbl hbA dL_law_193 hf 194 rfl (fun x462 hf => ?_)
        refine k_callV_i C ye_X11_mill ve_L_13 ⟨rfl, rfl⟩ ⟨rfl, rfl⟩ dL_law_194 [.int x462] rfl rfl (Nat.le_of_ble_eq_true rfl) (c_X11_mill _ _ _) hf 197 rfl (fun x464 w463 hf => ?_)
        refine k_aload_n C dL_law_197 2 rfl rfl 198 rfl ?_
        refine k_aload_n C dL_law_198 0 rfl rfl 199 rfl ?_
        refine k_iload_n C dL_law_199 3 rfl 200 rfl ?_
        refine k_iconst C dL_law_200 (1) (by decide) 201 rfl ?_
        refine k_iadd C dL_law_201 202 rfl ?_
        refine k_sld C hX hbl hbA dL_law_202 hf 203 rfl (fun x465 hf => ?_)
        refine k_callV_i C ye_X12_mill ve_L_17 ⟨rfl, rfl⟩ ⟨rfl, rfl⟩ dL_law_203 [.int x465] rfl rfl (Nat.le_of_ble_eq_true rfl) (c_X12_mill _ _ _) hf 206 rfl (fun x467 w466 hf => ?_)
        refine k_icmp_eq C dL_law_206 hf 1095 rfl 209 rfl (fun hf => ?_) (fun hf => ?_)
        · refine k_sub [0, 1, 2, 3] rfl ?_
          exact t_1095 _ _ _ w466 hf
        · refine k_iconst C dL_law_209 (0) (by decide) 210 rfl ?_
          exact absurd (congrArg Prod.fst (Option.some.inj hf)) (by decide : ¬ (0 : Int32) = 1)
      intro v1 v2 v3 w hf
      rw [f_L_18] at hf
      refine k_iload_n C dL_law_18 3 rfl 19 rfl ?_
      refine k_aload_n C dL_law_19 0 rfl rfl 20 rfl ?_
      refine k_slen C hX hbl hbA dL_law_20 21 rfl ?_
      refine k_iconst C dL_law_21 (5) (by decide) 22 rfl ?_
      refine k_isub C dL_law_22 23 rfl ?_
      refine k_icmp_gt C dL_law_23 hf 1101 rfl 26 rfl (fun hf => ?_) (fun hf => ?_)
      · refine k_iconst C dL_law_1101 (1) (by decide) 1102 rfl ?_
        exact k_lawret C hRm hxa hr hlocks hA0 dL_law_1102
      · refine k_aload_n C dL_law_26 0 rfl rfl 27 rfl ?_
        refine k_iload_n C dL_law_27 3 rfl 28 rfl ?_
        refine k_sld C hX hbl hbA dL_law_28 hf 29 rfl (fun x468 hf => ?_)
        refine k_bipush C dL_law_29 (63) (by decide) 31 rfl ?_
        refine k_iand C dL_law_31 32 rfl ?_
        refine k_split hf (fun he hf => ?_) (fun hn0 hf => ?_)
        · refine k_tswIn (off := 156) C dL_law_32 (0) he (by decide) 188 rfl ?_
          refine k_sub [0, 1, 2, 3] rfl ?_
          exact t_188 _ _ _ w hf
        · skip
          refine k_split hf (fun he hf => ?_) (fun hn1 hf => ?_)
          · refine k_tswIn (off := 179) C dL_law_32 (1) he (by decide) 211 rfl ?_
            refine k_sub [0, 1, 2, 3] rfl ?_
            exact t_211 _ _ _ w hf
          · skip
            refine k_split hf (fun he hf => ?_) (fun hn2 hf => ?_)
            · refine k_tswIn (off := 222) C dL_law_32 (2) he (by decide) 254 rfl ?_
              refine k_sub [0, 1, 2, 3] rfl ?_
              exact t_254 _ _ _ w hf
            · skip
              refine k_split hf (fun he hf => ?_) (fun hn3 hf => ?_)
              · refine k_tswIn (off := 245) C dL_law_32 (3) he (by decide) 277 rfl ?_
                refine k_sub [0, 1, 2, 3] rfl ?_
                exact t_277 _ _ _ w hf
              · skip
                refine k_split hf (fun he hf => ?_) (fun hn4 hf => ?_)
                · refine k_tswIn (off := 268) C dL_law_32 (4) he (by decide) 300 rfl ?_
                  refine k_sub [0, 1, 2, 3] rfl ?_
                  exact t_300 _ _ _ w hf
                · skip
                  refine k_split hf (fun he hf => ?_) (fun hn5 hf => ?_)
                  · refine k_tswIn (off := 281) C dL_law_32 (5) he (by decide) 313 rfl ?_
                    refine k_sub [0, 1, 2, 3] rfl ?_
                    exact t_313 _ _ _ w hf
                  · skip
                    refine k_split hf (fun he hf => ?_) (fun hn6 hf => ?_)
                    · refine k_tswIn (off := 294) C dL_law_32 (6) he (by decide) 326 rfl ?_
                      refine k_sub [0, 1, 2, 3] rfl ?_
                      exact t_326 _ _ _ w hf
                    · skip
                      refine k_split hf (fun he hf => ?_) (fun hn7 hf => ?_)
                      · refine k_tswIn (off := 317) C dL_law_32 (7) he (by decide) 349 rfl ?_
                        refine k_sub [0, 1, 2, 3] rfl ?_
                        exact t_349 _ _ _ w hf
                      · skip
                        refine k_split hf (fun he hf => ?_) (fun hn8 hf => ?_)
                        · refine k_tswIn (off := 340) C dL_law_32 (8) he (by decide) 372 rfl ?_
                          refine k_sub [0, 1, 2, 3] rfl ?_
                          exact t_372 _ _ _ w hf
                        · skip
                          refine k_split hf (fun he hf => ?_) (fun hn9 hf => ?_)
                          · refine k_tswIn (off := 363) C dL_law_32 (9) he (by decide) 395 rfl ?_
                            refine k_sub [0, 1, 2, 3] rfl ?_
                            exact t_395 _ _ _ w hf
                          · skip
                            refine k_split hf (fun he hf => ?_) (fun hn10 hf => ?_)
                            · refine k_tswIn (off := 396) C dL_law_32 (10) he (by decide) 428 rfl ?_
                              refine k_sub [0, 1, 2, 3] rfl ?_
                              exact t_428 _ _ _ w hf
                            · skip
                              refine k_split hf (fun he hf => ?_) (fun hn11 hf => ?_)
                              · refine k_tswIn (off := 419) C dL_law_32 (11) he (by decide) 451 rfl ?_
                                refine k_sub [0, 1, 2, 3] rfl ?_
                                exact t_451 _ _ _ w hf
                              · skip
                                refine k_split hf (fun he hf => ?_) (fun hn12 hf => ?_)
                                · refine k_tswIn (off := 432) C dL_law_32 (12) he (by decide) 464 rfl ?_
                                  refine k_sub [0, 1, 2, 3] rfl ?_
                                  exact t_464 _ _ _ w hf
                                · skip
                                  refine k_split hf (fun he hf => ?_) (fun hn13 hf => ?_)
                                  · refine k_tswIn (off := 465) C dL_law_32 (13) he (by decide) 497 rfl ?_
                                    refine k_sub [0, 1, 2, 3] rfl ?_
                                    exact t_497 _ _ _ w hf
                                  · skip
                                    refine k_split hf (fun he hf => ?_) (fun hn14 hf => ?_)
                                    · refine k_tswIn (off := 478) C dL_law_32 (14) he (by decide) 510 rfl ?_
                                      refine k_sub [0, 1, 2, 3] rfl ?_
                                      exact t_510 _ _ _ w hf
                                    · skip
                                      refine k_split hf (fun he hf => ?_) (fun hn15 hf => ?_)
                                      · refine k_tswIn (off := 511) C dL_law_32 (15) he (by decide) 543 rfl ?_
                                        refine k_sub [0, 1, 2, 3] rfl ?_
                                        exact t_543 _ _ _ w hf
                                      · skip
                                        refine k_split hf (fun he hf => ?_) (fun hn16 hf => ?_)
                                        · refine k_tswIn (off := 524) C dL_law_32 (16) he (by decide) 556 rfl ?_
                                          refine k_sub [0, 1, 2, 3] rfl ?_
                                          exact t_556 _ _ _ w hf
                                        · skip
                                          refine k_split hf (fun he hf => ?_) (fun hn17 hf => ?_)
                                          · refine k_tswIn (off := 557) C dL_law_32 (17) he (by decide) 589 rfl ?_
                                            refine k_sub [0, 1, 2, 3] rfl ?_
                                            exact t_589 _ _ _ w hf
                                          · skip
                                            refine k_split hf (fun he hf => ?_) (fun hn18 hf => ?_)
                                            · refine k_tswIn (off := 590) C dL_law_32 (18) he (by decide) 622 rfl ?_
                                              refine k_sub [0, 1, 2, 3] rfl ?_
                                              exact t_622 _ _ _ w hf
                                            · skip
                                              refine k_split hf (fun he hf => ?_) (fun hn19 hf => ?_)
                                              · refine k_tswIn (off := 623) C dL_law_32 (19) he (by decide) 655 rfl ?_
                                                refine k_sub [0, 1, 2, 3] rfl ?_
                                                exact t_655 _ _ _ w hf
                                              · skip
                                                refine k_split hf (fun he hf => ?_) (fun hn20 hf => ?_)
                                                · refine k_tswIn (off := 656) C dL_law_32 (20) he (by decide) 688 rfl ?_
                                                  refine k_sub [0, 1, 2, 3] rfl ?_
                                                  exact t_688 _ _ _ w hf
                                                · skip
                                                  refine k_split hf (fun he hf => ?_) (fun hn21 hf => ?_)
                                                  · refine k_tswIn (off := 679) C dL_law_32 (21) he (by decide) 711 rfl ?_
                                                    refine k_sub [0, 1, 2, 3] rfl ?_
                                                    exact t_711 _ _ _ w hf
                                                  · skip
                                                    refine k_split hf (fun he hf => ?_) (fun hn22 hf => ?_)
                                                    · refine k_tswIn (off := 692) C dL_law_32 (22) he (by decide) 724 rfl ?_
                                                      refine k_sub [0, 1, 2, 3] rfl ?_
                                                      exact t_724 _ _ _ w hf
                                                    · skip
                                                      refine k_split hf (fun he hf => ?_) (fun hn23 hf => ?_)
                                                      · refine k_tswIn (off := 725) C dL_law_32 (23) he (by decide) 757 rfl ?_
                                                        refine k_sub [0, 1, 2, 3] rfl ?_
                                                        exact t_757 _ _ _ w hf
                                                      · skip
                                                        refine k_split hf (fun he hf => ?_) (fun hn24 hf => ?_)
                                                        · refine k_tswIn (off := 778) C dL_law_32 (24) he (by decide) 810 rfl ?_
                                                          refine k_sub [0, 1, 2, 3] rfl ?_
                                                          exact t_810 _ _ _ w hf
                                                        · skip
                                                          refine k_split hf (fun he hf => ?_) (fun hn25 hf => ?_)
                                                          · refine k_tswIn (off := 801) C dL_law_32 (25) he (by decide) 833 rfl ?_
                                                            refine k_sub [0, 1, 2, 3] rfl ?_
                                                            exact t_833 _ _ _ w hf
                                                          · skip
                                                            refine k_split hf (fun he hf => ?_) (fun hn26 hf => ?_)
                                                            · refine k_tswIn (off := 834) C dL_law_32 (26) he (by decide) 866 rfl ?_
                                                              refine k_sub [0, 1, 2, 3] rfl ?_
                                                              exact t_866 _ _ _ w hf
                                                            · skip
                                                              refine k_split hf (fun he hf => ?_) (fun hn27 hf => ?_)
                                                              · refine k_tswIn (off := 857) C dL_law_32 (27) he (by decide) 889 rfl ?_
                                                                refine k_sub [0, 1, 2, 3] rfl ?_
                                                                exact t_889 _ _ _ w hf
                                                              · skip
                                                                refine k_split hf (fun he hf => ?_) (fun hn28 hf => ?_)
                                                                · refine k_tswIn (off := 900) C dL_law_32 (28) he (by decide) 932 rfl ?_
                                                                  refine k_sub [0, 1, 2, 3] rfl ?_
                                                                  exact t_932 _ _ _ w hf
                                                                · skip
                                                                  refine k_split hf (fun he hf => ?_) (fun hn29 hf => ?_)
                                                                  · refine k_tswIn (off := 933) C dL_law_32 (29) he (by decide) 965 rfl ?_
                                                                    refine k_sub [0, 1, 2, 3] rfl ?_
                                                                    exact t_965 _ _ _ w hf
                                                                  · skip
                                                                    refine k_split hf (fun he hf => ?_) (fun hn30 hf => ?_)
                                                                    · refine k_tswIn (off := 957) C dL_law_32 (30) he (by decide) 989 rfl ?_
                                                                      refine k_sub [0, 1, 2, 3] rfl ?_
                                                                      exact t_989 _ _ _ w hf
                                                                    · skip
                                                                      refine k_split hf (fun he hf => ?_) (fun hn31 hf => ?_)
                                                                      · refine k_tswIn (off := 980) C dL_law_32 (31) he (by decide) 1012 rfl ?_
                                                                        refine k_sub [0, 1, 2, 3] rfl ?_
                                                                        exact t_1012 _ _ _ w hf
                                                                      · skip
                                                                        refine k_split hf (fun he hf => ?_) (fun hn32 hf => ?_)
                                                                        · refine k_tswIn (off := 1003) C dL_law_32 (32) he (by decide) 1035 rfl ?_
                                                                          refine k_sub [0, 1, 2, 3] rfl ?_
                                                                          exact t_1035 _ _ _ w hf
                                                                        · skip
                                                                          refine k_split hf (fun he hf => ?_) (fun hn33 hf => ?_)
                                                                          · refine k_tswIn (off := 1026) C dL_law_32 (33) he (by decide) 1058 rfl ?_
                                                                            refine k_sub [0, 1, 2, 3] rfl ?_
                                                                            exact t_1058 _ _ _ w hf
                                                                          · skip
                                                                            refine k_split hf (fun he hf => ?_) (fun hn34 hf => ?_)
                                                                            · refine k_tswIn (off := 1049) C dL_law_32 (34) he (by decide) 1081 rfl ?_
                                                                              refine k_sub [0, 1, 2, 3] rfl ?_
                                                                              exact t_1081 _ _ _ w hf
                                                                            · skip
                                                                              refine k_tswOut C dL_law_32 (tsw_out [(0 : Int32), (1 : Int32), (2 : Int32), (3 : Int32), (4 : Int32), (5 : Int32), (6 : Int32), (7 : Int32), (8 : Int32), (9 : Int32), (10 : Int32), (11 : Int32), (12 : Int32), (13 : Int32), (14 : Int32), (15 : Int32), (16 : Int32), (17 : Int32), (18 : Int32), (19 : Int32), (20 : Int32), (21 : Int32), (22 : Int32), (23 : Int32), (24 : Int32), (25 : Int32), (26 : Int32), (27 : Int32), (28 : Int32), (29 : Int32), (30 : Int32), (31 : Int32), (32 : Int32), (33 : Int32), (34 : Int32)] (List.forall_mem_cons.mpr ⟨hn0, (List.forall_mem_cons.mpr ⟨hn1, (List.forall_mem_cons.mpr ⟨hn2, (List.forall_mem_cons.mpr ⟨hn3, (List.forall_mem_cons.mpr ⟨hn4, (List.forall_mem_cons.mpr ⟨hn5, (List.forall_mem_cons.mpr ⟨hn6, (List.forall_mem_cons.mpr ⟨hn7, (List.forall_mem_cons.mpr ⟨hn8, (List.forall_mem_cons.mpr ⟨hn9, (List.forall_mem_cons.mpr ⟨hn10, (List.forall_mem_cons.mpr ⟨hn11, (List.forall_mem_cons.mpr ⟨hn12, (List.forall_mem_cons.mpr ⟨hn13, (List.forall_mem_cons.mpr ⟨hn14, (List.forall_mem_cons.mpr ⟨hn15, (List.forall_mem_cons.mpr ⟨hn16, (List.forall_mem_cons.mpr ⟨hn17, (List.forall_mem_cons.mpr ⟨hn18, (List.forall_mem_cons.mpr ⟨hn19, (List.forall_mem_cons.mpr ⟨hn20, (List.forall_mem_cons.mpr ⟨hn21, (List.forall_mem_cons.mpr ⟨hn22, (List.forall_mem_cons.mpr ⟨hn23, (List.forall_mem_cons.mpr ⟨hn24, (List.forall_mem_cons.mpr ⟨hn25, (List.forall_mem_cons.mpr ⟨hn26, (List.forall_mem_cons.mpr ⟨hn27, (List.forall_mem_cons.mpr ⟨hn28, (List.forall_mem_cons.mpr ⟨hn29, (List.forall_mem_cons.mpr ⟨hn30, (List.forall_mem_cons.mpr ⟨hn31, (List.forall_mem_cons.mpr ⟨hn32, (List.forall_mem_cons.mpr ⟨hn33, (List.forall_mem_cons.mpr ⟨hn34, (fun _ h => absurd h List.not_mem_nil)⟩)⟩)⟩)⟩)⟩)⟩)⟩)⟩)⟩)⟩)⟩)⟩)⟩)⟩)⟩)⟩)⟩)⟩)⟩)⟩)⟩)⟩)⟩)⟩)⟩)⟩)⟩)⟩)⟩)⟩)⟩)⟩)⟩)⟩)⟩) (by decide)) 1095 rfl ?_
                                                                              refine k_sub [0, 1, 2, 3] rfl ?_
                                                                              exact t_1095 _ _ _ w hf
  unfold f_L at hf
  refine k_new C ce_11 cl_L_7 ins_11 ini_11 ⟨rfl, rfl⟩ dL_law_0 hf 3 rfl (fun w469 hf => ?_)
  refine k_dup C dL_law_3 rfl 4 rfl ?_
  refine k_callI_v C ye_X11_init ie_L_9 ⟨rfl, rfl⟩ ⟨rfl, rfl⟩ dL_law_4 [] rfl rfl (Nat.le_of_ble_eq_true rfl) (c_X11_init _ _) hf 7 rfl (fun w470 hf => ?_)
  refine k_astore_n C dL_law_7 rfl rfl (by decide) [(1, rV (xg X) (wN w0)), (0, .ref b)] rfl 8 rfl ?_
  refine k_new C ce_12 cl_L_10 ins_12 ini_12 ⟨rfl, rfl⟩ dL_law_8 hf 11 rfl (fun w472 hf => ?_)
  refine k_dup C dL_law_11 rfl 12 rfl ?_
  refine k_callI_v C ye_X12_init ie_L_12 ⟨rfl, rfl⟩ ⟨rfl, rfl⟩ dL_law_12 [] rfl rfl (Nat.le_of_ble_eq_true rfl) (c_X12_init _ _) hf 15 rfl (fun w473 hf => ?_)
  refine k_astore_n C dL_law_15 rfl rfl (by decide) [(2, rV (xg X) (wN w470)), (1, rV (xg X) (wN w0)), (0, .ref b)] rfl 16 rfl ?_
  refine k_iconst C dL_law_16 (0) (by decide) 17 rfl ?_
  refine k_istore_n C dL_law_17 rfl (by decide) [(3, .int (0 : Int32)), (2, rV (xg X) (wN w470)), (1, rV (xg X) (wN w0)), (0, .ref b)] rfl 18 rfl ?_
  refine k_sub [3, 2, 1, 0] rfl ?_
  exact t_18 4096 _ _ _ w473 hf
