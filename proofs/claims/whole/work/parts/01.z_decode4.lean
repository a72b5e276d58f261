theorem dX9_block_187 : decode cX9_block 187 = .ok (.aload_n 0, 1) := by decide +kernel
theorem dX9_block_188 : decode cX9_block 188 = .ok (.getfield 175, 3) := by decide +kernel
theorem dX9_block_191 : decode cX9_block 191 = .ok (.iconst 3, 1) := by decide +kernel
theorem dX9_block_192 : decode cX9_block 192 = .ok (.iaload, 1) := by decide +kernel
theorem dX9_block_193 : decode cX9_block 193 = .ok (.istore 5, 2) := by decide +kernel
theorem dX9_block_195 : decode cX9_block 195 = .ok (.aload_n 0, 1) := by decide +kernel
theorem dX9_block_196 : decode cX9_block 196 = .ok (.getfield 175, 3) := by decide +kernel
theorem dX9_block_199 : decode cX9_block 199 = .ok (.iconst 4, 1) := by decide +kernel
theorem dX9_block_200 : decode cX9_block 200 = .ok (.iaload, 1) := by decide +kernel
theorem dX9_block_201 : decode cX9_block 201 = .ok (.istore 6, 2) := by decide +kernel
theorem dX9_block_203 : decode cX9_block 203 = .ok (.aload_n 0, 1) := by decide +kernel
theorem dX9_block_204 : decode cX9_block 204 = .ok (.getfield 175, 3) := by decide +kernel
theorem dX9_block_207 : decode cX9_block 207 = .ok (.iconst 5, 1) := by decide +kernel
theorem dX9_block_208 : decode cX9_block 208 = .ok (.iaload, 1) := by decide +kernel
theorem dX9_block_209 : decode cX9_block 209 = .ok (.istore 7, 2) := by decide +kernel
theorem dX9_block_211 : decode cX9_block 211 = .ok (.aload_n 0, 1) := by decide +kernel
theorem dX9_block_212 : decode cX9_block 212 = .ok (.getfield 175, 3) := by decide +kernel
theorem dX9_block_215 : decode cX9_block 215 = .ok (.bipush 6, 2) := by decide +kernel
theorem dX9_block_217 : decode cX9_block 217 = .ok (.iaload, 1) := by decide +kernel
theorem dX9_block_218 : decode cX9_block 218 = .ok (.istore 8, 2) := by decide +kernel
theorem dX9_block_220 : decode cX9_block 220 = .ok (.aload_n 0, 1) := by decide +kernel
theorem dX9_block_221 : decode cX9_block 221 = .ok (.getfield 175, 3) := by decide +kernel
theorem dX9_block_224 : decode cX9_block 224 = .ok (.bipush 7, 2) := by decide +kernel
theorem dX9_block_226 : decode cX9_block 226 = .ok (.iaload, 1) := by decide +kernel
theorem dX9_block_227 : decode cX9_block 227 = .ok (.istore 9, 2) := by decide +kernel
theorem dX9_block_229 : decode cX9_block 229 = .ok (.iconst 0, 1) := by decide +kernel
theorem dX9_block_230 : decode cX9_block 230 = .ok (.istore 10, 2) := by decide +kernel
theorem dX9_block_232 : decode cX9_block 232 = .ok (.iload 10, 2) := by decide +kernel
theorem dX9_block_234 : decode cX9_block 234 = .ok (.bipush 64, 2) := by decide +kernel
theorem dX9_block_236 : decode cX9_block 236 = .ok (.if_icmp .ge 144, 3) := by decide +kernel
theorem dX9_block_239 : decode cX9_block 239 = .ok (.iload 6, 2) := by decide +kernel
theorem dX9_block_241 : decode cX9_block 241 = .ok (.bipush 6, 2) := by decide +kernel
theorem dX9_block_243 : decode cX9_block 243 = .ok (.invokestatic 344, 3) := by decide +kernel
theorem dX9_block_246 : decode cX9_block 246 = .ok (.iload 6, 2) := by decide +kernel
theorem dX9_block_248 : decode cX9_block 248 = .ok (.bipush 11, 2) := by decide +kernel
theorem dX9_block_250 : decode cX9_block 250 = .ok (.invokestatic 344, 3) := by decide +kernel
theorem dX9_block_253 : decode cX9_block 253 = .ok (.ixor, 1) := by decide +kernel
theorem dX9_block_254 : decode cX9_block 254 = .ok (.iload 6, 2) := by decide +kernel
theorem dX9_block_256 : decode cX9_block 256 = .ok (.bipush 25, 2) := by decide +kernel
theorem dX9_block_258 : decode cX9_block 258 = .ok (.invokestatic 344, 3) := by decide +kernel
theorem dX9_block_261 : decode cX9_block 261 = .ok (.ixor, 1) := by decide +kernel
theorem dX9_block_262 : decode cX9_block 262 = .ok (.istore 11, 2) := by decide +kernel
theorem dX9_block_264 : decode cX9_block 264 = .ok (.iload 9, 2) := by decide +kernel
theorem dX9_block_266 : decode cX9_block 266 = .ok (.iload 11, 2) := by decide +kernel
theorem dX9_block_268 : decode cX9_block 268 = .ok (.iadd, 1) := by decide +kernel
theorem dX9_block_269 : decode cX9_block 269 = .ok (.iload 6, 2) := by decide +kernel
theorem dX9_block_271 : decode cX9_block 271 = .ok (.iload 7, 2) := by decide +kernel
theorem dX9_block_273 : decode cX9_block 273 = .ok (.iand, 1) := by decide +kernel
theorem dX9_block_274 : decode cX9_block 274 = .ok (.iload 6, 2) := by decide +kernel
theorem dX9_block_276 : decode cX9_block 276 = .ok (.iconst (-1), 1) := by decide +kernel
theorem dX9_block_277 : decode cX9_block 277 = .ok (.ixor, 1) := by decide +kernel
theorem dX9_block_278 : decode cX9_block 278 = .ok (.iload 8, 2) := by decide +kernel
theorem dX9_block_280 : decode cX9_block 280 = .ok (.iand, 1) := by decide +kernel
theorem dX9_block_281 : decode cX9_block 281 = .ok (.ixor, 1) := by decide +kernel
theorem dX9_block_282 : decode cX9_block 282 = .ok (.iadd, 1) := by decide +kernel
theorem dX9_block_283 : decode cX9_block 283 = .ok (.aload_n 0, 1) := by decide +kernel
theorem dX9_block_284 : decode cX9_block 284 = .ok (.getfield 166, 3) := by decide +kernel
theorem dX9_block_287 : decode cX9_block 287 = .ok (.iload 10, 2) := by decide +kernel
theorem dX9_block_289 : decode cX9_block 289 = .ok (.iaload, 1) := by decide +kernel
theorem dX9_block_290 : decode cX9_block 290 = .ok (.iadd, 1) := by decide +kernel
theorem dX9_block_291 : decode cX9_block 291 = .ok (.aload_n 0, 1) := by decide +kernel
theorem dX9_block_292 : decode cX9_block 292 = .ok (.getfield 172, 3) := by decide +kernel
theorem dX9_block_295 : decode cX9_block 295 = .ok (.iload 10, 2) := by decide +kernel
theorem dX9_block_297 : decode cX9_block 297 = .ok (.iaload, 1) := by decide +kernel
theorem dX9_block_298 : decode cX9_block 298 = .ok (.iadd, 1) := by decide +kernel
theorem dX9_block_299 : decode cX9_block 299 = .ok (.istore 12, 2) := by decide +kernel
theorem dX9_block_301 : decode cX9_block 301 = .ok (.iload_n 2, 1) := by decide +kernel
theorem dX9_block_302 : decode cX9_block 302 = .ok (.iconst 2, 1) := by decide +kernel
theorem dX9_block_303 : decode cX9_block 303 = .ok (.invokestatic 344, 3) := by decide +kernel
theorem dX9_block_306 : decode cX9_block 306 = .ok (.iload_n 2, 1) := by decide +kernel
theorem dX9_block_307 : decode cX9_block 307 = .ok (.bipush 13, 2) := by decide +kernel
theorem dX9_block_309 : decode cX9_block 309 = .ok (.invokestatic 344, 3) := by decide +kernel
theorem dX9_block_312 : decode cX9_block 312 = .ok (.ixor, 1) := by decide +kernel
theorem dX9_block_313 : decode cX9_block 313 = .ok (.iload_n 2, 1) := by decide +kernel
theorem dX9_block_314 : decode cX9_block 314 = .ok (.bipush 22, 2) := by decide +kernel
theorem dX9_block_316 : decode cX9_block 316 = .ok (.invokestatic 344, 3) := by decide +kernel
theorem dX9_block_319 : decode cX9_block 319 = .ok (.ixor, 1) := by decide +kernel
theorem dX9_block_320 : decode cX9_block 320 = .ok (.istore 13, 2) := by decide +kernel
theorem dX9_block_322 : decode cX9_block 322 = .ok (.iload 13, 2) := by decide +kernel
theorem dX9_block_324 : decode cX9_block 324 = .ok (.iload_n 2, 1) := by decide +kernel
theorem dX9_block_325 : decode cX9_block 325 = .ok (.iload_n 3, 1) := by decide +kernel
theorem dX9_block_326 : decode cX9_block 326 = .ok (.iand, 1) := by decide +kernel
theorem dX9_block_327 : decode cX9_block 327 = .ok (.iload_n 2, 1) := by decide +kernel
theorem dX9_block_328 : decode cX9_block 328 = .ok (.iload 4, 2) := by decide +kernel
theorem dX9_block_330 : decode cX9_block 330 = .ok (.iand, 1) := by decide +kernel
theorem dX9_block_331 : decode cX9_block 331 = .ok (.ixor, 1) := by decide +kernel
theorem dX9_block_332 : decode cX9_block 332 = .ok (.iload_n 3, 1) := by decide +kernel
theorem dX9_block_333 : decode cX9_block 333 = .ok (.iload 4, 2) := by decide +kernel
theorem dX9_block_335 : decode cX9_block 335 = .ok (.iand, 1) := by decide +kernel
theorem dX9_block_336 : decode cX9_block 336 = .ok (.ixor, 1) := by decide +kernel
theorem dX9_block_337 : decode cX9_block 337 = .ok (.iadd, 1) := by decide +kernel
theorem dX9_block_338 : decode cX9_block 338 = .ok (.istore 14, 2) := by decide +kernel
theorem dX9_block_340 : decode cX9_block 340 = .ok (.iload 8, 2) := by decide +kernel
theorem dX9_block_342 : decode cX9_block 342 = .ok (.istore 9, 2) := by decide +kernel
theorem dX9_block_344 : decode cX9_block 344 = .ok (.iload 7, 2) := by decide +kernel
theorem dX9_block_346 : decode cX9_block 346 = .ok (.istore 8, 2) := by decide +kernel
theorem dX9_block_348 : decode cX9_block 348 = .ok (.iload 6, 2) := by decide +kernel
theorem dX9_block_350 : decode cX9_block 350 = .ok (.istore 7, 2) := by decide +kernel
theorem dX9_block_352 : decode cX9_block 352 = .ok (.iload 5, 2) := by decide +kernel
theorem dX9_block_354 : decode cX9_block 354 = .ok (.iload 12, 2) := by decide +kernel
theorem dX9_block_356 : decode cX9_block 356 = .ok (.iadd, 1) := by decide +kernel
theorem dX9_block_357 : decode cX9_block 357 = .ok (.istore 6, 2) := by decide +kernel
theorem dX9_block_359 : decode cX9_block 359 = .ok (.iload 4, 2) := by decide +kernel
theorem dX9_block_361 : decode cX9_block 361 = .ok (.istore 5, 2) := by decide +kernel
theorem dX9_block_363 : decode cX9_block 363 = .ok (.iload_n 3, 1) := by decide +kernel
theorem dX9_block_364 : decode cX9_block 364 = .ok (.istore 4, 2) := by decide +kernel
theorem dX9_block_366 : decode cX9_block 366 = .ok (.iload_n 2, 1) := by decide +kernel
theorem dX9_block_367 : decode cX9_block 367 = .ok (.istore_n 3, 1) := by decide +kernel
theorem dX9_block_368 : decode cX9_block 368 = .ok (.iload 12, 2) := by decide +kernel
theorem dX9_block_370 : decode cX9_block 370 = .ok (.iload 14, 2) := by decide +kernel
theorem dX9_block_372 : decode cX9_block 372 = .ok (.iadd, 1) := by decide +kernel
theorem dX9_block_373 : decode cX9_block 373 = .ok (.istore_n 2, 1) := by decide +kernel
theorem dX9_block_374 : decode cX9_block 374 = .ok (.iinc 10 1, 3) := by decide +kernel
theorem dX9_block_377 : decode cX9_block 377 = .ok (.goto (-145), 3) := by decide +kernel
theorem dX9_block_380 : decode cX9_block 380 = .ok (.aload_n 0, 1) := by decide +kernel
theorem dX9_block_381 : decode cX9_block 381 = .ok (.getfield 175, 3) := by decide +kernel
theorem dX9_block_384 : decode cX9_block 384 = .ok (.iconst 0, 1) := by decide +kernel
theorem dX9_block_385 : decode cX9_block 385 = .ok (.dup2, 1) := by decide +kernel
theorem dX9_block_386 : decode cX9_block 386 = .ok (.iaload, 1) := by decide +kernel
theorem dX9_block_387 : decode cX9_block 387 = .ok (.iload_n 2, 1) := by decide +kernel
theorem dX9_block_388 : decode cX9_block 388 = .ok (.iadd, 1) := by decide +kernel
theorem dX9_block_389 : decode cX9_block 389 = .ok (.iastore, 1) := by decide +kernel
theorem dX9_block_390 : decode cX9_block 390 = .ok (.aload_n 0, 1) := by decide +kernel
theorem dX9_block_391 : decode cX9_block 391 = .ok (.getfield 175, 3) := by decide +kernel
theorem dX9_block_394 : decode cX9_block 394 = .ok (.iconst 1, 1) := by decide +kernel
theorem dX9_block_395 : decode cX9_block 395 = .ok (.dup2, 1) := by decide +kernel
theorem dX9_block_396 : decode cX9_block 396 = .ok (.iaload, 1) := by decide +kernel
theorem dX9_block_397 : decode cX9_block 397 = .ok (.iload_n 3, 1) := by decide +kernel
theorem dX9_block_398 : decode cX9_block 398 = .ok (.iadd, 1) := by decide +kernel
theorem dX9_block_399 : decode cX9_block 399 = .ok (.iastore, 1) := by decide +kernel
theorem dX9_block_400 : decode cX9_block 400 = .ok (.aload_n 0, 1) := by decide +kernel
theorem dX9_block_401 : decode cX9_block 401 = .ok (.getfield 175, 3) := by decide +kernel
theorem dX9_block_404 : decode cX9_block 404 = .ok (.iconst 2, 1) := by decide +kernel
theorem dX9_block_405 : decode cX9_block 405 = .ok (.dup2, 1) := by decide +kernel
theorem dX9_block_406 : decode cX9_block 406 = .ok (.iaload, 1) := by decide +kernel
theorem dX9_block_407 : decode cX9_block 407 = .ok (.iload 4, 2) := by decide +kernel
theorem dX9_block_409 : decode cX9_block 409 = .ok (.iadd, 1) := by decide +kernel
theorem dX9_block_410 : decode cX9_block 410 = .ok (.iastore, 1) := by decide +kernel
theorem dX9_block_411 : decode cX9_block 411 = .ok (.aload_n 0, 1) := by decide +kernel
theorem dX9_block_412 : decode cX9_block 412 = .ok (.getfield 175, 3) := by decide +kernel
theorem dX9_block_415 : decode cX9_block 415 = .ok (.iconst 3, 1) := by decide +kernel
theorem dX9_block_416 : decode cX9_block 416 = .ok (.dup2, 1) := by decide +kernel
theorem dX9_block_417 : decode cX9_block 417 = .ok (.iaload, 1) := by decide +kernel
theorem dX9_block_418 : decode cX9_block 418 = .ok (.iload 5, 2) := by decide +kernel
theorem dX9_block_420 : decode cX9_block 420 = .ok (.iadd, 1) := by decide +kernel
theorem dX9_block_421 : decode cX9_block 421 = .ok (.iastore, 1) := by decide +kernel
theorem dX9_block_422 : decode cX9_block 422 = .ok (.aload_n 0, 1) := by decide +kernel
theorem dX9_block_423 : decode cX9_block 423 = .ok (.getfield 175, 3) := by decide +kernel
theorem dX9_block_426 : decode cX9_block 426 = .ok (.iconst 4, 1) := by decide +kernel
theorem dX9_block_427 : decode cX9_block 427 = .ok (.dup2, 1) := by decide +kernel
theorem dX9_block_428 : decode cX9_block 428 = .ok (.iaload, 1) := by decide +kernel
theorem dX9_block_429 : decode cX9_block 429 = .ok (.iload 6, 2) := by decide +kernel
theorem dX9_block_431 : decode cX9_block 431 = .ok (.iadd, 1) := by decide +kernel
theorem dX9_block_432 : decode cX9_block 432 = .ok (.iastore, 1) := by decide +kernel
theorem dX9_block_433 : decode cX9_block 433 = .ok (.aload_n 0, 1) := by decide +kernel
theorem dX9_block_434 : decode cX9_block 434 = .ok (.getfield 175, 3) := by decide +kernel
theorem dX9_block_437 : decode cX9_block 437 = .ok (.iconst 5, 1) := by decide +kernel
theorem dX9_block_438 : decode cX9_block 438 = .ok (.dup2, 1) := by decide +kernel
theorem dX9_block_439 : decode cX9_block 439 = .ok (.iaload, 1) := by decide +kernel
theorem dX9_block_440 : decode cX9_block 440 = .ok (.iload 7, 2) := by decide +kernel
theorem dX9_block_442 : decode cX9_block 442 = .ok (.iadd, 1) := by decide +kernel
theorem dX9_block_443 : decode cX9_block 443 = .ok (.iastore, 1) := by decide +kernel
theorem dX9_block_444 : decode cX9_block 444 = .ok (.aload_n 0, 1) := by decide +kernel
theorem dX9_block_445 : decode cX9_block 445 = .ok (.getfield 175, 3) := by decide +kernel
theorem dX9_block_448 : decode cX9_block 448 = .ok (.bipush 6, 2) := by decide +kernel
theorem dX9_block_450 : decode cX9_block 450 = .ok (.dup2, 1) := by decide +kernel
theorem dX9_block_451 : decode cX9_block 451 = .ok (.iaload, 1) := by decide +kernel
theorem dX9_block_452 : decode cX9_block 452 = .ok (.iload 8, 2) := by decide +kernel
theorem dX9_block_454 : decode cX9_block 454 = .ok (.iadd, 1) := by decide +kernel
theorem dX9_block_455 : decode cX9_block 455 = .ok (.iastore, 1) := by decide +kernel
theorem dX9_block_456 : decode cX9_block 456 = .ok (.aload_n 0, 1) := by decide +kernel
theorem dX9_block_457 : decode cX9_block 457 = .ok (.getfield 175, 3) := by decide +kernel
theorem dX9_block_460 : decode cX9_block 460 = .ok (.bipush 7, 2) := by decide +kernel
theorem dX9_block_462 : decode cX9_block 462 = .ok (.dup2, 1) := by decide +kernel
theorem dX9_block_463 : decode cX9_block 463 = .ok (.iaload, 1) := by decide +kernel
theorem dX9_block_464 : decode cX9_block 464 = .ok (.iload 9, 2) := by decide +kernel
theorem dX9_block_466 : decode cX9_block 466 = .ok (.iadd, 1) := by decide +kernel
theorem dX9_block_467 : decode cX9_block 467 = .ok (.iastore, 1) := by decide +kernel
theorem dX9_block_468 : decode cX9_block 468 = .ok (.return_, 1) := by decide +kernel
theorem dX9_saysEntry_0 : decode cX9_saysEntry 0 = .ok (.iconst 0, 1) := by decide +kernel
theorem dX9_saysEntry_1 : decode cX9_saysEntry 1 = .ok (.istore_n 2, 1) := by decide +kernel
theorem dX9_saysEntry_2 : decode cX9_saysEntry 2 = .ok (.iload_n 2, 1) := by decide +kernel
theorem dX9_saysEntry_3 : decode cX9_saysEntry 3 = .ok (.aload_n 0, 1) := by decide +kernel
theorem dX9_saysEntry_4 : decode cX9_saysEntry 4 = .ok (.getfield 75, 3) := by decide +kernel
theorem dX9_saysEntry_7 : decode cX9_saysEntry 7 = .ok (.iload_n 1, 1) := by decide +kernel
theorem dX9_saysEntry_8 : decode cX9_saysEntry 8 = .ok (.iaload, 1) := by decide +kernel
theorem dX9_saysEntry_9 : decode cX9_saysEntry 9 = .ok (.if_icmp .ge 26, 3) := by decide +kernel
theorem dX9_saysEntry_12 : decode cX9_saysEntry 12 = .ok (.aload_n 0, 1) := by decide +kernel
theorem dX9_saysEntry_13 : decode cX9_saysEntry 13 = .ok (.aload_n 0, 1) := by decide +kernel
theorem dX9_saysEntry_14 : decode cX9_saysEntry 14 = .ok (.getfield 66, 3) := by decide +kernel
theorem dX9_saysEntry_17 : decode cX9_saysEntry 17 = .ok (.aload_n 0, 1) := by decide +kernel
theorem dX9_saysEntry_18 : decode cX9_saysEntry 18 = .ok (.getfield 72, 3) := by decide +kernel
theorem dX9_saysEntry_21 : decode cX9_saysEntry 21 = .ok (.iload_n 1, 1) := by decide +kernel
theorem dX9_saysEntry_22 : decode cX9_saysEntry 22 = .ok (.iaload, 1) := by decide +kernel
theorem dX9_saysEntry_23 : decode cX9_saysEntry 23 = .ok (.iload_n 2, 1) := by decide +kernel
theorem dX9_saysEntry_24 : decode cX9_saysEntry 24 = .ok (.iadd, 1) := by decide +kernel
theorem dX9_saysEntry_25 : decode cX9_saysEntry 25 = .ok (.iaload, 1) := by decide +kernel
theorem dX9_saysEntry_26 : decode cX9_saysEntry 26 = .ok (.invokevirtual 330, 3) := by decide +kernel
theorem dX9_saysEntry_29 : decode cX9_saysEntry 29 = .ok (.iinc 2 1, 3) := by decide +kernel
theorem dX9_saysEntry_32 : decode cX9_saysEntry 32 = .ok (.goto (-30), 3) := by decide +kernel
theorem dX9_saysEntry_35 : decode cX9_saysEntry 35 = .ok (.return_, 1) := by decide +kernel
theorem dX9_chain_0 : decode cX9_chain 0 = .ok (.iconst 0, 1) := by decide +kernel
theorem dX9_chain_1 : decode cX9_chain 1 = .ok (.istore_n 2, 1) := by decide +kernel
theorem dX9_chain_2 : decode cX9_chain 2 = .ok (.iload_n 2, 1) := by decide +kernel
theorem dX9_chain_3 : decode cX9_chain 3 = .ok (.bipush 32, 2) := by decide +kernel
theorem dX9_chain_5 : decode cX9_chain 5 = .ok (.if_icmp .ge 16, 3) := by decide +kernel
theorem dX9_chain_8 : decode cX9_chain 8 = .ok (.aload_n 0, 1) := by decide +kernel
theorem dX9_chain_9 : decode cX9_chain 9 = .ok (.getfield 178, 3) := by decide +kernel
theorem dX9_chain_12 : decode cX9_chain 12 = .ok (.iload_n 2, 1) := by decide +kernel
theorem dX9_chain_13 : decode cX9_chain 13 = .ok (.iconst 0, 1) := by decide +kernel
theorem dX9_chain_14 : decode cX9_chain 14 = .ok (.iastore, 1) := by decide +kernel
theorem dX9_chain_15 : decode cX9_chain 15 = .ok (.iinc 2 1, 3) := by decide +kernel
theorem dX9_chain_18 : decode cX9_chain 18 = .ok (.goto (-16), 3) := by decide +kernel
theorem dX9_chain_21 : decode cX9_chain 21 = .ok (.iconst 0, 1) := by decide +kernel
theorem dX9_chain_22 : decode cX9_chain 22 = .ok (.istore_n 2, 1) := by decide +kernel
theorem dX9_chain_23 : decode cX9_chain 23 = .ok (.iload_n 2, 1) := by decide +kernel
theorem dX9_chain_24 : decode cX9_chain 24 = .ok (.iload_n 1, 1) := by decide +kernel
theorem dX9_chain_25 : decode cX9_chain 25 = .ok (.if_icmp .ge 42, 3) := by decide +kernel
theorem dX9_chain_28 : decode cX9_chain 28 = .ok (.iconst 0, 1) := by decide +kernel
theorem dX9_chain_29 : decode cX9_chain 29 = .ok (.istore_n 3, 1) := by decide +kernel
theorem dX9_chain_30 : decode cX9_chain 30 = .ok (.iload_n 3, 1) := by decide +kernel
theorem dX9_chain_31 : decode cX9_chain 31 = .ok (.bipush 32, 2) := by decide +kernel
theorem dX9_chain_33 : decode cX9_chain 33 = .ok (.if_icmp .ge 19, 3) := by decide +kernel
theorem dX9_chain_36 : decode cX9_chain 36 = .ok (.aload_n 0, 1) := by decide +kernel
theorem dX9_chain_37 : decode cX9_chain 37 = .ok (.aload_n 0, 1) := by decide +kernel
theorem dX9_chain_38 : decode cX9_chain 38 = .ok (.getfield 178, 3) := by decide +kernel
theorem dX9_chain_41 : decode cX9_chain 41 = .ok (.iload_n 3, 1) := by decide +kernel
theorem dX9_chain_42 : decode cX9_chain 42 = .ok (.iaload, 1) := by decide +kernel
theorem dX9_chain_43 : decode cX9_chain 43 = .ok (.invokevirtual 330, 3) := by decide +kernel
theorem dX9_chain_46 : decode cX9_chain 46 = .ok (.iinc 3 1, 3) := by decide +kernel
theorem dX9_chain_49 : decode cX9_chain 49 = .ok (.goto (-19), 3) := by decide +kernel
theorem dX9_chain_52 : decode cX9_chain 52 = .ok (.aload_n 0, 1) := by decide +kernel
theorem dX9_chain_53 : decode cX9_chain 53 = .ok (.iload_n 2, 1) := by decide +kernel
theorem dX9_chain_54 : decode cX9_chain 54 = .ok (.invokevirtual 348, 3) := by decide +kernel
theorem dX9_chain_57 : decode cX9_chain 57 = .ok (.aload_n 0, 1) := by decide +kernel
theorem dX9_chain_58 : decode cX9_chain 58 = .ok (.invokevirtual 351, 3) := by decide +kernel
theorem dX9_chain_61 : decode cX9_chain 61 = .ok (.iinc 2 1, 3) := by decide +kernel
theorem dX9_chain_64 : decode cX9_chain 64 = .ok (.goto (-41), 3) := by decide +kernel
theorem dX9_chain_67 : decode cX9_chain 67 = .ok (.return_, 1) := by decide +kernel
theorem dX9_leaf_0 : decode cX9_leaf 0 = .ok (.aload_n 0, 1) := by decide +kernel
theorem dX9_leaf_1 : decode cX9_leaf 1 = .ok (.iconst 0, 1) := by decide +kernel
theorem dX9_leaf_2 : decode cX9_leaf 2 = .ok (.invokevirtual 330, 3) := by decide +kernel
theorem dX9_leaf_5 : decode cX9_leaf 5 = .ok (.aload_n 0, 1) := by decide +kernel
theorem dX9_leaf_6 : decode cX9_leaf 6 = .ok (.iload_n 1, 1) := by decide +kernel
theorem dX9_leaf_7 : decode cX9_leaf 7 = .ok (.invokevirtual 348, 3) := by decide +kernel
theorem dX9_leaf_10 : decode cX9_leaf 10 = .ok (.aload_n 0, 1) := by decide +kernel
theorem dX9_leaf_11 : decode cX9_leaf 11 = .ok (.invokevirtual 351, 3) := by decide +kernel
theorem dX9_leaf_14 : decode cX9_leaf 14 = .ok (.return_, 1) := by decide +kernel
theorem dX9_keepWait_0 : decode cX9_keepWait 0 = .ok (.iconst 0, 1) := by decide +kernel
theorem dX9_keepWait_1 : decode cX9_keepWait 1 = .ok (.istore_n 2, 1) := by decide +kernel
theorem dX9_keepWait_2 : decode cX9_keepWait 2 = .ok (.iload_n 2, 1) := by decide +kernel
theorem dX9_keepWait_3 : decode cX9_keepWait 3 = .ok (.bipush 32, 2) := by decide +kernel
theorem dX9_keepWait_5 : decode cX9_keepWait 5 = .ok (.if_icmp .ge 26, 3) := by decide +kernel
theorem dX9_keepWait_8 : decode cX9_keepWait 8 = .ok (.aload_n 0, 1) := by decide +kernel
theorem dX9_keepWait_9 : decode cX9_keepWait 9 = .ok (.getfield 181, 3) := by decide +kernel
theorem dX9_keepWait_12 : decode cX9_keepWait 12 = .ok (.bipush 32, 2) := by decide +kernel
theorem dX9_keepWait_14 : decode cX9_keepWait 14 = .ok (.iload_n 1, 1) := by decide +kernel
theorem dX9_keepWait_15 : decode cX9_keepWait 15 = .ok (.imul, 1) := by decide +kernel
theorem dX9_keepWait_16 : decode cX9_keepWait 16 = .ok (.iload_n 2, 1) := by decide +kernel
theorem dX9_keepWait_17 : decode cX9_keepWait 17 = .ok (.iadd, 1) := by decide +kernel
theorem dX9_keepWait_18 : decode cX9_keepWait 18 = .ok (.aload_n 0, 1) := by decide +kernel
theorem dX9_keepWait_19 : decode cX9_keepWait 19 = .ok (.getfield 178, 3) := by decide +kernel
theorem dX9_keepWait_22 : decode cX9_keepWait 22 = .ok (.iload_n 2, 1) := by decide +kernel
theorem dX9_keepWait_23 : decode cX9_keepWait 23 = .ok (.iaload, 1) := by decide +kernel
theorem dX9_keepWait_24 : decode cX9_keepWait 24 = .ok (.iastore, 1) := by decide +kernel
theorem dX9_keepWait_25 : decode cX9_keepWait 25 = .ok (.iinc 2 1, 3) := by decide +kernel
theorem dX9_keepWait_28 : decode cX9_keepWait 28 = .ok (.goto (-26), 3) := by decide +kernel
theorem dX9_keepWait_31 : decode cX9_keepWait 31 = .ok (.return_, 1) := by decide +kernel
theorem dX9_joins_0 : decode cX9_joins 0 = .ok (.aload_n 0, 1) := by decide +kernel
theorem dX9_joins_1 : decode cX9_joins 1 = .ok (.iconst 1, 1) := by decide +kernel
theorem dX9_joins_2 : decode cX9_joins 2 = .ok (.invokevirtual 330, 3) := by decide +kernel
theorem dX9_joins_5 : decode cX9_joins 5 = .ok (.iconst 0, 1) := by decide +kernel
theorem dX9_joins_6 : decode cX9_joins 6 = .ok (.istore_n 2, 1) := by decide +kernel
theorem dX9_joins_7 : decode cX9_joins 7 = .ok (.iload_n 2, 1) := by decide +kernel
theorem dX9_joins_8 : decode cX9_joins 8 = .ok (.bipush 32, 2) := by decide +kernel
theorem dX9_joins_10 : decode cX9_joins 10 = .ok (.if_icmp .ge 24, 3) := by decide +kernel
theorem dX9_joins_13 : decode cX9_joins 13 = .ok (.aload_n 0, 1) := by decide +kernel
theorem dX9_joins_14 : decode cX9_joins 14 = .ok (.aload_n 0, 1) := by decide +kernel
theorem dX9_joins_15 : decode cX9_joins 15 = .ok (.getfield 181, 3) := by decide +kernel
theorem dX9_joins_18 : decode cX9_joins 18 = .ok (.bipush 32, 2) := by decide +kernel
theorem dX9_joins_20 : decode cX9_joins 20 = .ok (.iload_n 1, 1) := by decide +kernel
theorem dX9_joins_21 : decode cX9_joins 21 = .ok (.imul, 1) := by decide +kernel
theorem dX9_joins_22 : decode cX9_joins 22 = .ok (.iload_n 2, 1) := by decide +kernel
theorem dX9_joins_23 : decode cX9_joins 23 = .ok (.iadd, 1) := by decide +kernel
theorem dX9_joins_24 : decode cX9_joins 24 = .ok (.iaload, 1) := by decide +kernel
theorem dX9_joins_25 : decode cX9_joins 25 = .ok (.invokevirtual 330, 3) := by decide +kernel
theorem dX9_joins_28 : decode cX9_joins 28 = .ok (.iinc 2 1, 3) := by decide +kernel
theorem dX9_joins_31 : decode cX9_joins 31 = .ok (.goto (-24), 3) := by decide +kernel
theorem dX9_joins_34 : decode cX9_joins 34 = .ok (.iconst 0, 1) := by decide +kernel
theorem dX9_joins_35 : decode cX9_joins 35 = .ok (.istore_n 2, 1) := by decide +kernel
theorem dX9_joins_36 : decode cX9_joins 36 = .ok (.iload_n 2, 1) := by decide +kernel
theorem dX9_joins_37 : decode cX9_joins 37 = .ok (.bipush 32, 2) := by decide +kernel
theorem dX9_joins_39 : decode cX9_joins 39 = .ok (.if_icmp .ge 19, 3) := by decide +kernel
theorem dX9_joins_42 : decode cX9_joins 42 = .ok (.aload_n 0, 1) := by decide +kernel
theorem dX9_joins_43 : decode cX9_joins 43 = .ok (.aload_n 0, 1) := by decide +kernel
theorem dX9_joins_44 : decode cX9_joins 44 = .ok (.getfield 178, 3) := by decide +kernel
theorem dX9_joins_47 : decode cX9_joins 47 = .ok (.iload_n 2, 1) := by decide +kernel
theorem dX9_joins_48 : decode cX9_joins 48 = .ok (.iaload, 1) := by decide +kernel
theorem dX9_joins_49 : decode cX9_joins 49 = .ok (.invokevirtual 330, 3) := by decide +kernel
theorem dX9_joins_52 : decode cX9_joins 52 = .ok (.iinc 2 1, 3) := by decide +kernel
theorem dX9_joins_55 : decode cX9_joins 55 = .ok (.goto (-19), 3) := by decide +kernel
theorem dX9_joins_58 : decode cX9_joins 58 = .ok (.aload_n 0, 1) := by decide +kernel
theorem dX9_joins_59 : decode cX9_joins 59 = .ok (.invokevirtual 351, 3) := by decide +kernel
theorem dX9_joins_62 : decode cX9_joins 62 = .ok (.return_, 1) := by decide +kernel
theorem dX9_tree_0 : decode cX9_tree 0 = .ok (.iconst 0, 1) := by decide +kernel
theorem dX9_tree_1 : decode cX9_tree 1 = .ok (.istore_n 3, 1) := by decide +kernel
theorem dX9_tree_2 : decode cX9_tree 2 = .ok (.iload_n 1, 1) := by decide +kernel
theorem dX9_tree_3 : decode cX9_tree 3 = .ok (.istore 4, 2) := by decide +kernel
theorem dX9_tree_5 : decode cX9_tree 5 = .ok (.iload 4, 2) := by decide +kernel
theorem dX9_tree_7 : decode cX9_tree 7 = .ok (.iload_n 2, 1) := by decide +kernel
theorem dX9_tree_8 : decode cX9_tree 8 = .ok (.if_icmp .ge 68, 3) := by decide +kernel
theorem dX9_tree_11 : decode cX9_tree 11 = .ok (.aload_n 0, 1) := by decide +kernel
theorem dX9_tree_12 : decode cX9_tree 12 = .ok (.iload 4, 2) := by decide +kernel
theorem dX9_tree_14 : decode cX9_tree 14 = .ok (.invokevirtual 354, 3) := by decide +kernel
theorem dX9_tree_17 : decode cX9_tree 17 = .ok (.iconst 1, 1) := by decide +kernel
theorem dX9_tree_18 : decode cX9_tree 18 = .ok (.istore 5, 2) := by decide +kernel
theorem dX9_tree_20 : decode cX9_tree 20 = .ok (.iload_n 3, 1) := by decide +kernel
theorem dX9_tree_21 : decode cX9_tree 21 = .ok (.ifCond .le 33, 3) := by decide +kernel
theorem dX9_tree_24 : decode cX9_tree 24 = .ok (.aload_n 0, 1) := by decide +kernel
theorem dX9_tree_25 : decode cX9_tree 25 = .ok (.getfield 184, 3) := by decide +kernel
theorem dX9_tree_28 : decode cX9_tree 28 = .ok (.iload_n 3, 1) := by decide +kernel
theorem dX9_tree_29 : decode cX9_tree 29 = .ok (.iconst 1, 1) := by decide +kernel
theorem dX9_tree_30 : decode cX9_tree 30 = .ok (.isub, 1) := by decide +kernel
theorem dX9_tree_31 : decode cX9_tree 31 = .ok (.iaload, 1) := by decide +kernel
theorem dX9_tree_32 : decode cX9_tree 32 = .ok (.iload 5, 2) := by decide +kernel
theorem dX9_tree_34 : decode cX9_tree 34 = .ok (.if_icmp .ne 20, 3) := by decide +kernel
theorem dX9_tree_37 : decode cX9_tree 37 = .ok (.iinc 3 (-1), 3) := by decide +kernel
theorem dX9_tree_40 : decode cX9_tree 40 = .ok (.aload_n 0, 1) := by decide +kernel
theorem dX9_tree_41 : decode cX9_tree 41 = .ok (.iload_n 3, 1) := by decide +kernel
theorem dX9_tree_42 : decode cX9_tree 42 = .ok (.invokevirtual 357, 3) := by decide +kernel
theorem dX9_tree_45 : decode cX9_tree 45 = .ok (.iconst 2, 1) := by decide +kernel
theorem dX9_tree_46 : decode cX9_tree 46 = .ok (.iload 5, 2) := by decide +kernel
theorem dX9_tree_48 : decode cX9_tree 48 = .ok (.imul, 1) := by decide +kernel
theorem dX9_tree_49 : decode cX9_tree 49 = .ok (.istore 5, 2) := by decide +kernel
theorem dX9_tree_51 : decode cX9_tree 51 = .ok (.goto (-31), 3) := by decide +kernel
theorem dX9_tree_54 : decode cX9_tree 54 = .ok (.aload_n 0, 1) := by decide +kernel
theorem dX9_tree_55 : decode cX9_tree 55 = .ok (.iload_n 3, 1) := by decide +kernel
theorem dX9_tree_56 : decode cX9_tree 56 = .ok (.invokevirtual 360, 3) := by decide +kernel
theorem dX9_tree_59 : decode cX9_tree 59 = .ok (.aload_n 0, 1) := by decide +kernel
theorem dX9_tree_60 : decode cX9_tree 60 = .ok (.getfield 184, 3) := by decide +kernel
theorem dX9_tree_63 : decode cX9_tree 63 = .ok (.iload_n 3, 1) := by decide +kernel
theorem dX9_tree_64 : decode cX9_tree 64 = .ok (.iload 5, 2) := by decide +kernel
theorem dX9_tree_66 : decode cX9_tree 66 = .ok (.iastore, 1) := by decide +kernel
theorem dX9_tree_67 : decode cX9_tree 67 = .ok (.iinc 3 1, 3) := by decide +kernel
theorem dX9_tree_70 : decode cX9_tree 70 = .ok (.iinc 4 1, 3) := by decide +kernel
theorem dX9_tree_73 : decode cX9_tree 73 = .ok (.goto (-68), 3) := by decide +kernel
theorem dX9_tree_76 : decode cX9_tree 76 = .ok (.iload_n 3, 1) := by decide +kernel
theorem dX9_tree_77 : decode cX9_tree 77 = .ok (.ifCond .ne 8, 3) := by decide +kernel
theorem dX9_tree_80 : decode cX9_tree 80 = .ok (.aload_n 0, 1) := by decide +kernel
theorem dX9_tree_81 : decode cX9_tree 81 = .ok (.invokevirtual 351, 3) := by decide +kernel
theorem dX9_tree_84 : decode cX9_tree 84 = .ok (.return_, 1) := by decide +kernel
theorem dX9_tree_85 : decode cX9_tree 85 = .ok (.iinc 3 (-1), 3) := by decide +kernel
theorem dX9_tree_88 : decode cX9_tree 88 = .ok (.iconst 0, 1) := by decide +kernel
theorem dX9_tree_89 : decode cX9_tree 89 = .ok (.istore 4, 2) := by decide +kernel
theorem dX9_tree_91 : decode cX9_tree 91 = .ok (.iload 4, 2) := by decide +kernel
theorem dX9_tree_93 : decode cX9_tree 93 = .ok (.bipush 32, 2) := by decide +kernel
theorem dX9_tree_95 : decode cX9_tree 95 = .ok (.if_icmp .ge 28, 3) := by decide +kernel
theorem dX9_tree_98 : decode cX9_tree 98 = .ok (.aload_n 0, 1) := by decide +kernel
theorem dX9_tree_99 : decode cX9_tree 99 = .ok (.getfield 178, 3) := by decide +kernel
theorem dX9_tree_102 : decode cX9_tree 102 = .ok (.iload 4, 2) := by decide +kernel
theorem dX9_tree_104 : decode cX9_tree 104 = .ok (.aload_n 0, 1) := by decide +kernel
theorem dX9_tree_105 : decode cX9_tree 105 = .ok (.getfield 181, 3) := by decide +kernel
theorem dX9_tree_108 : decode cX9_tree 108 = .ok (.bipush 32, 2) := by decide +kernel
theorem dX9_tree_110 : decode cX9_tree 110 = .ok (.iload_n 3, 1) := by decide +kernel
theorem dX9_tree_111 : decode cX9_tree 111 = .ok (.imul, 1) := by decide +kernel
theorem dX9_tree_112 : decode cX9_tree 112 = .ok (.iload 4, 2) := by decide +kernel
theorem dX9_tree_114 : decode cX9_tree 114 = .ok (.iadd, 1) := by decide +kernel
theorem dX9_tree_115 : decode cX9_tree 115 = .ok (.iaload, 1) := by decide +kernel
theorem dX9_tree_116 : decode cX9_tree 116 = .ok (.iastore, 1) := by decide +kernel
theorem dX9_tree_117 : decode cX9_tree 117 = .ok (.iinc 4 1, 3) := by decide +kernel
theorem dX9_tree_120 : decode cX9_tree 120 = .ok (.goto (-29), 3) := by decide +kernel
theorem dX9_tree_123 : decode cX9_tree 123 = .ok (.iload_n 3, 1) := by decide +kernel
theorem dX9_tree_124 : decode cX9_tree 124 = .ok (.ifCond .le 14, 3) := by decide +kernel
theorem dX9_tree_127 : decode cX9_tree 127 = .ok (.iinc 3 (-1), 3) := by decide +kernel
theorem dX9_tree_130 : decode cX9_tree 130 = .ok (.aload_n 0, 1) := by decide +kernel
theorem dX9_tree_131 : decode cX9_tree 131 = .ok (.iload_n 3, 1) := by decide +kernel
theorem dX9_tree_132 : decode cX9_tree 132 = .ok (.invokevirtual 357, 3) := by decide +kernel
theorem dX9_tree_135 : decode cX9_tree 135 = .ok (.goto (-12), 3) := by decide +kernel
theorem dX9_tree_138 : decode cX9_tree 138 = .ok (.return_, 1) := by decide +kernel
theorem dX9_hash_0 : decode cX9_hash 0 = .ok (.iload_n 1, 1) := by decide +kernel
theorem dX9_hash_1 : decode cX9_hash 1 = .ok (.iconst 0, 1) := by decide +kernel
theorem dX9_hash_2 : decode cX9_hash 2 = .ok (.iconst 2, 1) := by decide +kernel
theorem dX9_hash_3 : decode cX9_hash 3 = .ok (.invokestatic 311, 3) := by decide +kernel
theorem dX9_hash_6 : decode cX9_hash 6 = .ok (.ifCond .eq 43, 3) := by decide +kernel
theorem dX9_hash_9 : decode cX9_hash 9 = .ok (.iload_n 2, 1) := by decide +kernel
theorem dX9_hash_10 : decode cX9_hash 10 = .ok (.iconst 0, 1) := by decide +kernel
theorem dX9_hash_11 : decode cX9_hash 11 = .ok (.iload_n 1, 1) := by decide +kernel
theorem dX9_hash_12 : decode cX9_hash 12 = .ok (.iconst 2, 1) := by decide +kernel
theorem dX9_hash_13 : decode cX9_hash 13 = .ok (.if_icmp .ne 14, 3) := by decide +kernel
theorem dX9_hash_16 : decode cX9_hash 16 = .ok (.aload_n 0, 1) := by decide +kernel
theorem dX9_hash_17 : decode cX9_hash 17 = .ok (.getfield 13, 3) := by decide +kernel
theorem dX9_hash_20 : decode cX9_hash 20 = .ok (.iconst 0, 1) := by decide +kernel
theorem dX9_hash_21 : decode cX9_hash 21 = .ok (.iaload, 1) := by decide +kernel
theorem dX9_hash_22 : decode cX9_hash 22 = .ok (.iconst 1, 1) := by decide +kernel
theorem dX9_hash_23 : decode cX9_hash 23 = .ok (.isub, 1) := by decide +kernel
theorem dX9_hash_24 : decode cX9_hash 24 = .ok (.goto 9, 3) := by decide +kernel
theorem dX9_hash_27 : decode cX9_hash 27 = .ok (.aload_n 0, 1) := by decide +kernel
theorem dX9_hash_28 : decode cX9_hash 28 = .ok (.getfield 13, 3) := by decide +kernel
theorem dX9_hash_31 : decode cX9_hash 31 = .ok (.iconst 0, 1) := by decide +kernel
theorem dX9_hash_32 : decode cX9_hash 32 = .ok (.iaload, 1) := by decide +kernel
theorem dX9_hash_33 : decode cX9_hash 33 = .ok (.invokestatic 311, 3) := by decide +kernel
theorem dX9_hash_36 : decode cX9_hash 36 = .ok (.ifCond .eq 13, 3) := by decide +kernel
theorem dX9_hash_39 : decode cX9_hash 39 = .ok (.iload_n 3, 1) := by decide +kernel
theorem dX9_hash_40 : decode cX9_hash 40 = .ok (.iconst 0, 1) := by decide +kernel
theorem dX9_hash_41 : decode cX9_hash 41 = .ok (.bipush 31, 2) := by decide +kernel
theorem dX9_hash_43 : decode cX9_hash 43 = .ok (.invokestatic 311, 3) := by decide +kernel
theorem dX9_hash_46 : decode cX9_hash 46 = .ok (.ifCond .ne 5, 3) := by decide +kernel
theorem dX9_hash_49 : decode cX9_hash 49 = .ok (.iconst (-1), 1) := by decide +kernel
theorem dX9_hash_50 : decode cX9_hash 50 = .ok (.ireturn, 1) := by decide +kernel
theorem dX9_hash_51 : decode cX9_hash 51 = .ok (.iload_n 1, 1) := by decide +kernel
theorem dX9_hash_52 : decode cX9_hash 52 = .ok (.ifCond .ne 11, 3) := by decide +kernel
theorem dX9_hash_55 : decode cX9_hash 55 = .ok (.aload_n 0, 1) := by decide +kernel
theorem dX9_hash_56 : decode cX9_hash 56 = .ok (.iload_n 2, 1) := by decide +kernel
theorem dX9_hash_57 : decode cX9_hash 57 = .ok (.invokevirtual 363, 3) := by decide +kernel
theorem dX9_hash_60 : decode cX9_hash 60 = .ok (.goto 22, 3) := by decide +kernel
theorem dX9_hash_63 : decode cX9_hash 63 = .ok (.iload_n 1, 1) := by decide +kernel
theorem dX9_hash_64 : decode cX9_hash 64 = .ok (.iconst 1, 1) := by decide +kernel
theorem dX9_hash_65 : decode cX9_hash 65 = .ok (.if_icmp .ne 12, 3) := by decide +kernel
theorem dX9_hash_68 : decode cX9_hash 68 = .ok (.aload_n 0, 1) := by decide +kernel
theorem dX9_hash_69 : decode cX9_hash 69 = .ok (.iconst 0, 1) := by decide +kernel
theorem dX9_hash_70 : decode cX9_hash 70 = .ok (.iload_n 2, 1) := by decide +kernel
theorem dX9_hash_71 : decode cX9_hash 71 = .ok (.invokevirtual 366, 3) := by decide +kernel
theorem dX9_hash_74 : decode cX9_hash 74 = .ok (.goto 8, 3) := by decide +kernel
theorem dX9_hash_77 : decode cX9_hash 77 = .ok (.aload_n 0, 1) := by decide +kernel
theorem dX9_hash_78 : decode cX9_hash 78 = .ok (.iload_n 2, 1) := by decide +kernel
theorem dX9_hash_79 : decode cX9_hash 79 = .ok (.invokevirtual 354, 3) := by decide +kernel
theorem dX9_hash_82 : decode cX9_hash 82 = .ok (.aload_n 0, 1) := by decide +kernel
theorem dX9_hash_83 : decode cX9_hash 83 = .ok (.getfield 178, 3) := by decide +kernel
theorem dX9_hash_86 : decode cX9_hash 86 = .ok (.iload_n 3, 1) := by decide +kernel
theorem dX9_hash_87 : decode cX9_hash 87 = .ok (.iaload, 1) := by decide +kernel
theorem dX9_hash_88 : decode cX9_hash 88 = .ok (.ireturn, 1) := by decide +kernel
theorem dX9_keep_0 : decode cX9_keep 0 = .ok (.iload_n 1, 1) := by decide +kernel
theorem dX9_keep_1 : decode cX9_keep 1 = .ok (.iconst 0, 1) := by decide +kernel
theorem dX9_keep_2 : decode cX9_keep 2 = .ok (.bipush 7, 2) := by decide +kernel
theorem dX9_keep_4 : decode cX9_keep 4 = .ok (.invokestatic 311, 3) := by decide +kernel
theorem dX9_keep_7 : decode cX9_keep 7 = .ok (.ifCond .ne 5, 3) := by decide +kernel
theorem dX9_keep_10 : decode cX9_keep 10 = .ok (.iconst (-1), 1) := by decide +kernel
theorem dX9_keep_11 : decode cX9_keep 11 = .ok (.ireturn, 1) := by decide +kernel
theorem dX9_keep_12 : decode cX9_keep 12 = .ok (.aload_n 0, 1) := by decide +kernel
theorem dX9_keep_13 : decode cX9_keep 13 = .ok (.getfield 190, 3) := by decide +kernel
theorem dX9_keep_16 : decode cX9_keep 16 = .ok (.iload_n 1, 1) := by decide +kernel
theorem dX9_keep_17 : decode cX9_keep 17 = .ok (.iconst 1, 1) := by decide +kernel
theorem dX9_keep_18 : decode cX9_keep 18 = .ok (.bastore, 1) := by decide +kernel
theorem dX9_keep_19 : decode cX9_keep 19 = .ok (.aload_n 0, 1) := by decide +kernel
theorem dX9_keep_20 : decode cX9_keep 20 = .ok (.getfield 187, 3) := by decide +kernel
theorem dX9_keep_23 : decode cX9_keep 23 = .ok (.iload_n 1, 1) := by decide +kernel
theorem dX9_keep_24 : decode cX9_keep 24 = .ok (.aload_n 0, 1) := by decide +kernel
theorem dX9_keep_25 : decode cX9_keep 25 = .ok (.getfield 13, 3) := by decide +kernel
theorem dX9_keep_28 : decode cX9_keep 28 = .ok (.iconst 0, 1) := by decide +kernel
theorem dX9_keep_29 : decode cX9_keep 29 = .ok (.iaload, 1) := by decide +kernel
theorem dX9_keep_30 : decode cX9_keep 30 = .ok (.iastore, 1) := by decide +kernel
theorem dX9_keep_31 : decode cX9_keep 31 = .ok (.aload_n 0, 1) := by decide +kernel
theorem dX9_keep_32 : decode cX9_keep 32 = .ok (.aload_n 0, 1) := by decide +kernel
theorem dX9_keep_33 : decode cX9_keep 33 = .ok (.getfield 13, 3) := by decide +kernel
theorem dX9_keep_36 : decode cX9_keep 36 = .ok (.iconst 0, 1) := by decide +kernel
theorem dX9_keep_37 : decode cX9_keep 37 = .ok (.iaload, 1) := by decide +kernel
theorem dX9_keep_38 : decode cX9_keep 38 = .ok (.invokevirtual 363, 3) := by decide +kernel
theorem dX9_keep_41 : decode cX9_keep 41 = .ok (.iconst 0, 1) := by decide +kernel
theorem dX9_keep_42 : decode cX9_keep 42 = .ok (.istore_n 2, 1) := by decide +kernel
theorem dX9_keep_43 : decode cX9_keep 43 = .ok (.iload_n 2, 1) := by decide +kernel
theorem dX9_keep_44 : decode cX9_keep 44 = .ok (.bipush 32, 2) := by decide +kernel
theorem dX9_keep_46 : decode cX9_keep 46 = .ok (.if_icmp .ge 26, 3) := by decide +kernel
theorem dX9_keep_49 : decode cX9_keep 49 = .ok (.aload_n 0, 1) := by decide +kernel
theorem dX9_keep_50 : decode cX9_keep 50 = .ok (.getfield 193, 3) := by decide +kernel
theorem dX9_keep_53 : decode cX9_keep 53 = .ok (.bipush 32, 2) := by decide +kernel
theorem dX9_keep_55 : decode cX9_keep 55 = .ok (.iload_n 1, 1) := by decide +kernel
theorem dX9_keep_56 : decode cX9_keep 56 = .ok (.imul, 1) := by decide +kernel
theorem dX9_keep_57 : decode cX9_keep 57 = .ok (.iload_n 2, 1) := by decide +kernel
theorem dX9_keep_58 : decode cX9_keep 58 = .ok (.iadd, 1) := by decide +kernel
theorem dX9_keep_59 : decode cX9_keep 59 = .ok (.aload_n 0, 1) := by decide +kernel
theorem dX9_keep_60 : decode cX9_keep 60 = .ok (.getfield 178, 3) := by decide +kernel
theorem dX9_keep_63 : decode cX9_keep 63 = .ok (.iload_n 2, 1) := by decide +kernel
theorem dX9_keep_64 : decode cX9_keep 64 = .ok (.iaload, 1) := by decide +kernel
theorem dX9_keep_65 : decode cX9_keep 65 = .ok (.iastore, 1) := by decide +kernel
theorem dX9_keep_66 : decode cX9_keep 66 = .ok (.iinc 2 1, 3) := by decide +kernel
theorem dX9_keep_69 : decode cX9_keep 69 = .ok (.goto (-26), 3) := by decide +kernel
theorem dX9_keep_72 : decode cX9_keep 72 = .ok (.aload_n 0, 1) := by decide +kernel
theorem dX9_keep_73 : decode cX9_keep 73 = .ok (.iconst 0, 1) := by decide +kernel
theorem dX9_keep_74 : decode cX9_keep 74 = .ok (.aload_n 0, 1) := by decide +kernel
theorem dX9_keep_75 : decode cX9_keep 75 = .ok (.getfield 13, 3) := by decide +kernel
theorem dX9_keep_78 : decode cX9_keep 78 = .ok (.iconst 0, 1) := by decide +kernel
theorem dX9_keep_79 : decode cX9_keep 79 = .ok (.iaload, 1) := by decide +kernel
theorem dX9_keep_80 : decode cX9_keep 80 = .ok (.invokevirtual 366, 3) := by decide +kernel
theorem dX9_keep_83 : decode cX9_keep 83 = .ok (.iconst 0, 1) := by decide +kernel
theorem dX9_keep_84 : decode cX9_keep 84 = .ok (.istore_n 2, 1) := by decide +kernel
theorem dX9_keep_85 : decode cX9_keep 85 = .ok (.iload_n 2, 1) := by decide +kernel
theorem dX9_keep_86 : decode cX9_keep 86 = .ok (.bipush 32, 2) := by decide +kernel
theorem dX9_keep_88 : decode cX9_keep 88 = .ok (.if_icmp .ge 26, 3) := by decide +kernel
theorem dX9_keep_91 : decode cX9_keep 91 = .ok (.aload_n 0, 1) := by decide +kernel
theorem dX9_keep_92 : decode cX9_keep 92 = .ok (.getfield 196, 3) := by decide +kernel
theorem dX9_keep_95 : decode cX9_keep 95 = .ok (.bipush 32, 2) := by decide +kernel
theorem dX9_keep_97 : decode cX9_keep 97 = .ok (.iload_n 1, 1) := by decide +kernel
theorem dX9_keep_98 : decode cX9_keep 98 = .ok (.imul, 1) := by decide +kernel
theorem dX9_keep_99 : decode cX9_keep 99 = .ok (.iload_n 2, 1) := by decide +kernel
theorem dX9_keep_100 : decode cX9_keep 100 = .ok (.iadd, 1) := by decide +kernel
theorem dX9_keep_101 : decode cX9_keep 101 = .ok (.aload_n 0, 1) := by decide +kernel
theorem dX9_keep_102 : decode cX9_keep 102 = .ok (.getfield 178, 3) := by decide +kernel
theorem dX9_keep_105 : decode cX9_keep 105 = .ok (.iload_n 2, 1) := by decide +kernel
theorem dX9_keep_106 : decode cX9_keep 106 = .ok (.iaload, 1) := by decide +kernel
theorem dX9_keep_107 : decode cX9_keep 107 = .ok (.iastore, 1) := by decide +kernel
theorem dX9_keep_108 : decode cX9_keep 108 = .ok (.iinc 2 1, 3) := by decide +kernel
theorem dX9_keep_111 : decode cX9_keep 111 = .ok (.goto (-26), 3) := by decide +kernel
theorem dX9_keep_114 : decode cX9_keep 114 = .ok (.aload_n 0, 1) := by decide +kernel
theorem dX9_keep_115 : decode cX9_keep 115 = .ok (.getfield 13, 3) := by decide +kernel
theorem dX9_keep_118 : decode cX9_keep 118 = .ok (.iconst 0, 1) := by decide +kernel
theorem dX9_keep_119 : decode cX9_keep 119 = .ok (.iaload, 1) := by decide +kernel
theorem dX9_keep_120 : decode cX9_keep 120 = .ok (.ireturn, 1) := by decide +kernel
theorem dX9_isAs_0 : decode cX9_isAs 0 = .ok (.iconst 1, 1) := by decide +kernel
theorem dX9_isAs_1 : decode cX9_isAs 1 = .ok (.istore_n 3, 1) := by decide +kernel
theorem dX9_isAs_2 : decode cX9_isAs 2 = .ok (.iconst 0, 1) := by decide +kernel
theorem dX9_isAs_3 : decode cX9_isAs 3 = .ok (.istore 4, 2) := by decide +kernel
theorem dX9_isAs_5 : decode cX9_isAs 5 = .ok (.iload 4, 2) := by decide +kernel
theorem dX9_isAs_7 : decode cX9_isAs 7 = .ok (.bipush 32, 2) := by decide +kernel
theorem dX9_isAs_9 : decode cX9_isAs 9 = .ok (.if_icmp .ge 38, 3) := by decide +kernel
theorem dX9_isAs_12 : decode cX9_isAs 12 = .ok (.iload_n 3, 1) := by decide +kernel
theorem dX9_isAs_13 : decode cX9_isAs 13 = .ok (.ifCond .eq 26, 3) := by decide +kernel
theorem dX9_isAs_16 : decode cX9_isAs 16 = .ok (.aload_n 1, 1) := by decide +kernel
theorem dX9_isAs_17 : decode cX9_isAs 17 = .ok (.bipush 32, 2) := by decide +kernel
theorem dX9_isAs_19 : decode cX9_isAs 19 = .ok (.iload_n 2, 1) := by decide +kernel
theorem dX9_isAs_20 : decode cX9_isAs 20 = .ok (.imul, 1) := by decide +kernel
theorem dX9_isAs_21 : decode cX9_isAs 21 = .ok (.iload 4, 2) := by decide +kernel
theorem dX9_isAs_23 : decode cX9_isAs 23 = .ok (.iadd, 1) := by decide +kernel
theorem dX9_isAs_24 : decode cX9_isAs 24 = .ok (.iaload, 1) := by decide +kernel
theorem dX9_isAs_25 : decode cX9_isAs 25 = .ok (.aload_n 0, 1) := by decide +kernel
theorem dX9_isAs_26 : decode cX9_isAs 26 = .ok (.getfield 178, 3) := by decide +kernel
theorem dX9_isAs_29 : decode cX9_isAs 29 = .ok (.iload 4, 2) := by decide +kernel
theorem dX9_isAs_31 : decode cX9_isAs 31 = .ok (.iaload, 1) := by decide +kernel
theorem dX9_isAs_32 : decode cX9_isAs 32 = .ok (.if_icmp .ne 7, 3) := by decide +kernel
theorem dX9_isAs_35 : decode cX9_isAs 35 = .ok (.iconst 1, 1) := by decide +kernel
theorem dX9_isAs_36 : decode cX9_isAs 36 = .ok (.goto 4, 3) := by decide +kernel
theorem dX9_isAs_39 : decode cX9_isAs 39 = .ok (.iconst 0, 1) := by decide +kernel
theorem dX9_isAs_40 : decode cX9_isAs 40 = .ok (.istore_n 3, 1) := by decide +kernel
theorem dX9_isAs_41 : decode cX9_isAs 41 = .ok (.iinc 4 1, 3) := by decide +kernel
theorem dX9_isAs_44 : decode cX9_isAs 44 = .ok (.goto (-39), 3) := by decide +kernel
theorem dX9_isAs_47 : decode cX9_isAs 47 = .ok (.iload_n 3, 1) := by decide +kernel
theorem dX9_isAs_48 : decode cX9_isAs 48 = .ok (.ireturn, 1) := by decide +kernel
theorem dX9_verify_0 : decode cX9_verify 0 = .ok (.iload_n 1, 1) := by decide +kernel
theorem dX9_verify_1 : decode cX9_verify 1 = .ok (.iconst 0, 1) := by decide +kernel
theorem dX9_verify_2 : decode cX9_verify 2 = .ok (.bipush 7, 2) := by decide +kernel
theorem dX9_verify_4 : decode cX9_verify 4 = .ok (.invokestatic 311, 3) := by decide +kernel
theorem dX9_verify_7 : decode cX9_verify 7 = .ok (.ifCond .eq 12, 3) := by decide +kernel
theorem dX9_verify_10 : decode cX9_verify 10 = .ok (.aload_n 0, 1) := by decide +kernel
theorem dX9_verify_11 : decode cX9_verify 11 = .ok (.getfield 190, 3) := by decide +kernel
theorem dX9_verify_14 : decode cX9_verify 14 = .ok (.iload_n 1, 1) := by decide +kernel
theorem dX9_verify_15 : decode cX9_verify 15 = .ok (.baload, 1) := by decide +kernel
theorem dX9_verify_16 : decode cX9_verify 16 = .ok (.ifCond .ne 5, 3) := by decide +kernel
theorem dX9_verify_19 : decode cX9_verify 19 = .ok (.iconst (-1), 1) := by decide +kernel
theorem dX9_verify_20 : decode cX9_verify 20 = .ok (.ireturn, 1) := by decide +kernel
theorem dX9_verify_21 : decode cX9_verify 21 = .ok (.aload_n 0, 1) := by decide +kernel
theorem dX9_verify_22 : decode cX9_verify 22 = .ok (.aload_n 0, 1) := by decide +kernel
theorem dX9_verify_23 : decode cX9_verify 23 = .ok (.getfield 187, 3) := by decide +kernel
theorem dX9_verify_26 : decode cX9_verify 26 = .ok (.iload_n 1, 1) := by decide +kernel
theorem dX9_verify_27 : decode cX9_verify 27 = .ok (.iaload, 1) := by decide +kernel
theorem dX9_verify_28 : decode cX9_verify 28 = .ok (.invokevirtual 363, 3) := by decide +kernel
theorem dX9_verify_31 : decode cX9_verify 31 = .ok (.aload_n 0, 1) := by decide +kernel
theorem dX9_verify_32 : decode cX9_verify 32 = .ok (.aload_n 0, 1) := by decide +kernel
theorem dX9_verify_33 : decode cX9_verify 33 = .ok (.getfield 193, 3) := by decide +kernel
theorem dX9_verify_36 : decode cX9_verify 36 = .ok (.iload_n 1, 1) := by decide +kernel
theorem dX9_verify_37 : decode cX9_verify 37 = .ok (.invokevirtual 370, 3) := by decide +kernel
theorem dX9_verify_40 : decode cX9_verify 40 = .ok (.ifCond .ne 5, 3) := by decide +kernel
theorem dX9_verify_43 : decode cX9_verify 43 = .ok (.iconst 1, 1) := by decide +kernel
theorem dX9_verify_44 : decode cX9_verify 44 = .ok (.ireturn, 1) := by decide +kernel
theorem dX9_verify_45 : decode cX9_verify 45 = .ok (.aload_n 0, 1) := by decide +kernel
theorem dX9_verify_46 : decode cX9_verify 46 = .ok (.iconst 0, 1) := by decide +kernel
theorem dX9_verify_47 : decode cX9_verify 47 = .ok (.aload_n 0, 1) := by decide +kernel
theorem dX9_verify_48 : decode cX9_verify 48 = .ok (.getfield 187, 3) := by decide +kernel
theorem dX9_verify_51 : decode cX9_verify 51 = .ok (.iload_n 1, 1) := by decide +kernel
theorem dX9_verify_52 : decode cX9_verify 52 = .ok (.iaload, 1) := by decide +kernel
theorem dX9_verify_53 : decode cX9_verify 53 = .ok (.invokevirtual 366, 3) := by decide +kernel
theorem dX9_verify_56 : decode cX9_verify 56 = .ok (.aload_n 0, 1) := by decide +kernel
theorem dX9_verify_57 : decode cX9_verify 57 = .ok (.aload_n 0, 1) := by decide +kernel
theorem dX9_verify_58 : decode cX9_verify 58 = .ok (.getfield 196, 3) := by decide +kernel
theorem dX9_verify_61 : decode cX9_verify 61 = .ok (.iload_n 1, 1) := by decide +kernel
theorem dX9_verify_62 : decode cX9_verify 62 = .ok (.invokevirtual 370, 3) := by decide +kernel
theorem dX9_verify_65 : decode cX9_verify 65 = .ok (.ifCond .eq 7, 3) := by decide +kernel
theorem dX9_verify_68 : decode cX9_verify 68 = .ok (.iconst 0, 1) := by decide +kernel
theorem dX9_verify_69 : decode cX9_verify 69 = .ok (.goto 4, 3) := by decide +kernel
theorem dX9_verify_72 : decode cX9_verify 72 = .ok (.iconst 2, 1) := by decide +kernel
theorem dX9_verify_73 : decode cX9_verify 73 = .ok (.ireturn, 1) := by decide +kernel
theorem dX9_half_0 : decode cX9_half 0 = .ok (.iconst 1, 1) := by decide +kernel
theorem dX9_half_1 : decode cX9_half 1 = .ok (.istore_n 1, 1) := by decide +kernel
theorem dX9_half_2 : decode cX9_half 2 = .ok (.iconst 2, 1) := by decide +kernel
theorem dX9_half_3 : decode cX9_half 3 = .ok (.iload_n 1, 1) := by decide +kernel
theorem dX9_half_4 : decode cX9_half 4 = .ok (.imul, 1) := by decide +kernel
theorem dX9_half_5 : decode cX9_half 5 = .ok (.iload_n 0, 1) := by decide +kernel
theorem dX9_half_6 : decode cX9_half 6 = .ok (.if_icmp .ge 10, 3) := by decide +kernel
theorem dX9_half_9 : decode cX9_half 9 = .ok (.iconst 2, 1) := by decide +kernel
theorem dX9_half_10 : decode cX9_half 10 = .ok (.iload_n 1, 1) := by decide +kernel
theorem dX9_half_11 : decode cX9_half 11 = .ok (.imul, 1) := by decide +kernel
theorem dX9_half_12 : decode cX9_half 12 = .ok (.istore_n 1, 1) := by decide +kernel
theorem dX9_half_13 : decode cX9_half 13 = .ok (.goto (-11), 3) := by decide +kernel
theorem dX9_half_16 : decode cX9_half 16 = .ok (.iload_n 1, 1) := by decide +kernel
theorem dX9_half_17 : decode cX9_half 17 = .ok (.ireturn, 1) := by decide +kernel
theorem dX9_down_0 : decode cX9_down 0 = .ok (.iconst 0, 1) := by decide +kernel
theorem dX9_down_1 : decode cX9_down 1 = .ok (.istore 4, 2) := by decide +kernel
theorem dX9_down_3 : decode cX9_down 3 = .ok (.iload_n 2, 1) := by decide +kernel
theorem dX9_down_4 : decode cX9_down 4 = .ok (.istore 5, 2) := by decide +kernel
theorem dX9_down_6 : decode cX9_down 6 = .ok (.iload_n 1, 1) := by decide +kernel
theorem dX9_down_7 : decode cX9_down 7 = .ok (.istore 6, 2) := by decide +kernel
theorem dX9_down_9 : decode cX9_down 9 = .ok (.aload_n 0, 1) := by decide +kernel
theorem dX9_down_10 : decode cX9_down 10 = .ok (.iconst 1, 1) := by decide +kernel
theorem dX9_down_11 : decode cX9_down 11 = .ok (.putfield 374, 3) := by decide +kernel
theorem dX9_down_14 : decode cX9_down 14 = .ok (.aload_n 0, 1) := by decide +kernel
theorem dX9_down_15 : decode cX9_down 15 = .ok (.iconst 0, 1) := by decide +kernel
theorem dX9_down_16 : decode cX9_down 16 = .ok (.putfield 378, 3) := by decide +kernel
theorem dX9_down_19 : decode cX9_down 19 = .ok (.iload_n 3, 1) := by decide +kernel
theorem dX9_down_20 : decode cX9_down 20 = .ok (.ifCond .eq 15, 3) := by decide +kernel
theorem dX9_down_23 : decode cX9_down 23 = .ok (.iload 5, 2) := by decide +kernel
theorem dX9_down_25 : decode cX9_down 25 = .ok (.iload 4, 2) := by decide +kernel
theorem dX9_down_27 : decode cX9_down 27 = .ok (.isub, 1) := by decide +kernel
theorem dX9_down_28 : decode cX9_down 28 = .ok (.iconst 1, 1) := by decide +kernel
theorem dX9_down_29 : decode cX9_down 29 = .ok (.if_icmp .le 173, 3) := by decide +kernel
theorem dX9_down_32 : decode cX9_down 32 = .ok (.goto 13, 3) := by decide +kernel
theorem dX9_down_35 : decode cX9_down 35 = .ok (.iload 6, 2) := by decide +kernel
theorem dX9_down_37 : decode cX9_down 37 = .ok (.iload 5, 2) := by decide +kernel
theorem dX9_down_39 : decode cX9_down 39 = .ok (.iload 4, 2) := by decide +kernel
theorem dX9_down_41 : decode cX9_down 41 = .ok (.isub, 1) := by decide +kernel
theorem dX9_down_42 : decode cX9_down 42 = .ok (.if_icmp .eq 160, 3) := by decide +kernel
theorem dX9_down_45 : decode cX9_down 45 = .ok (.iload 5, 2) := by decide +kernel
theorem dX9_down_47 : decode cX9_down 47 = .ok (.iload 4, 2) := by decide +kernel
theorem dX9_down_49 : decode cX9_down 49 = .ok (.isub, 1) := by decide +kernel
theorem dX9_down_50 : decode cX9_down 50 = .ok (.invokestatic 381, 3) := by decide +kernel
theorem dX9_down_53 : decode cX9_down 53 = .ok (.istore 7, 2) := by decide +kernel
theorem dX9_down_55 : decode cX9_down 55 = .ok (.iload_n 3, 1) := by decide +kernel
theorem dX9_down_56 : decode cX9_down 56 = .ok (.ifCond .eq 18, 3) := by decide +kernel
theorem dX9_down_59 : decode cX9_down 59 = .ok (.iload 6, 2) := by decide +kernel
theorem dX9_down_61 : decode cX9_down 61 = .ok (.iload 7, 2) := by decide +kernel
theorem dX9_down_63 : decode cX9_down 63 = .ok (.if_icmp .ge 7, 3) := by decide +kernel
theorem dX9_down_66 : decode cX9_down 66 = .ok (.iconst 1, 1) := by decide +kernel
theorem dX9_down_67 : decode cX9_down 67 = .ok (.goto 19, 3) := by decide +kernel
theorem dX9_down_70 : decode cX9_down 70 = .ok (.iconst 0, 1) := by decide +kernel
theorem dX9_down_71 : decode cX9_down 71 = .ok (.goto 15, 3) := by decide +kernel
theorem dX9_down_74 : decode cX9_down 74 = .ok (.iload 6, 2) := by decide +kernel
theorem dX9_down_76 : decode cX9_down 76 = .ok (.iload 7, 2) := by decide +kernel
theorem dX9_down_78 : decode cX9_down 78 = .ok (.if_icmp .gt 7, 3) := by decide +kernel
theorem dX9_down_81 : decode cX9_down 81 = .ok (.iconst 1, 1) := by decide +kernel
theorem dX9_down_82 : decode cX9_down 82 = .ok (.goto 4, 3) := by decide +kernel
theorem dX9_down_85 : decode cX9_down 85 = .ok (.iconst 0, 1) := by decide +kernel
theorem dX9_down_86 : decode cX9_down 86 = .ok (.istore 8, 2) := by decide +kernel
theorem dX9_down_88 : decode cX9_down 88 = .ok (.aload_n 0, 1) := by decide +kernel
theorem dX9_down_89 : decode cX9_down 89 = .ok (.getfield 202, 3) := by decide +kernel
theorem dX9_down_92 : decode cX9_down 92 = .ok (.aload_n 0, 1) := by decide +kernel
theorem dX9_down_93 : decode cX9_down 93 = .ok (.getfield 378, 3) := by decide +kernel
theorem dX9_down_96 : decode cX9_down 96 = .ok (.iload 8, 2) := by decide +kernel
theorem dX9_down_98 : decode cX9_down 98 = .ok (.ifCond .ne 7, 3) := by decide +kernel
theorem dX9_down_101 : decode cX9_down 101 = .ok (.iconst 1, 1) := by decide +kernel
theorem dX9_down_102 : decode cX9_down 102 = .ok (.goto 4, 3) := by decide +kernel
theorem dX9_down_105 : decode cX9_down 105 = .ok (.iconst 0, 1) := by decide +kernel
theorem dX9_down_106 : decode cX9_down 106 = .ok (.bastore, 1) := by decide +kernel
theorem dX9_down_107 : decode cX9_down 107 = .ok (.aload_n 0, 1) := by decide +kernel
theorem dX9_down_108 : decode cX9_down 108 = .ok (.getfield 205, 3) := by decide +kernel
theorem dX9_down_111 : decode cX9_down 111 = .ok (.aload_n 0, 1) := by decide +kernel
theorem dX9_down_112 : decode cX9_down 112 = .ok (.getfield 378, 3) := by decide +kernel
theorem dX9_down_115 : decode cX9_down 115 = .ok (.iload 8, 2) := by decide +kernel
theorem dX9_down_117 : decode cX9_down 117 = .ok (.ifCond .eq 11, 3) := by decide +kernel
theorem dX9_down_120 : decode cX9_down 120 = .ok (.iload 4, 2) := by decide +kernel
theorem dX9_down_122 : decode cX9_down 122 = .ok (.iload 7, 2) := by decide +kernel
theorem dX9_down_124 : decode cX9_down 124 = .ok (.iadd, 1) := by decide +kernel
theorem dX9_down_125 : decode cX9_down 125 = .ok (.goto 5, 3) := by decide +kernel
theorem dX9_down_128 : decode cX9_down 128 = .ok (.iload 4, 2) := by decide +kernel
theorem dX9_down_130 : decode cX9_down 130 = .ok (.iastore, 1) := by decide +kernel
theorem dX9_down_131 : decode cX9_down 131 = .ok (.aload_n 0, 1) := by decide +kernel
theorem dX9_down_132 : decode cX9_down 132 = .ok (.getfield 208, 3) := by decide +kernel
theorem dX9_down_135 : decode cX9_down 135 = .ok (.aload_n 0, 1) := by decide +kernel
theorem dX9_down_136 : decode cX9_down 136 = .ok (.getfield 378, 3) := by decide +kernel
theorem dX9_down_139 : decode cX9_down 139 = .ok (.iload 8, 2) := by decide +kernel
theorem dX9_down_141 : decode cX9_down 141 = .ok (.ifCond .eq 8, 3) := by decide +kernel
theorem dX9_down_144 : decode cX9_down 144 = .ok (.iload 5, 2) := by decide +kernel
theorem dX9_down_146 : decode cX9_down 146 = .ok (.goto 8, 3) := by decide +kernel
theorem dX9_down_149 : decode cX9_down 149 = .ok (.iload 4, 2) := by decide +kernel
theorem dX9_down_151 : decode cX9_down 151 = .ok (.iload 7, 2) := by decide +kernel
theorem dX9_down_153 : decode cX9_down 153 = .ok (.iadd, 1) := by decide +kernel
theorem dX9_down_154 : decode cX9_down 154 = .ok (.iastore, 1) := by decide +kernel
theorem dX9_down_155 : decode cX9_down 155 = .ok (.iload 8, 2) := by decide +kernel
theorem dX9_down_157 : decode cX9_down 157 = .ok (.ifCond .eq 13, 3) := by decide +kernel
theorem dX9_down_160 : decode cX9_down 160 = .ok (.iload 4, 2) := by decide +kernel
theorem dX9_down_162 : decode cX9_down 162 = .ok (.iload 7, 2) := by decide +kernel
theorem dX9_down_164 : decode cX9_down 164 = .ok (.iadd, 1) := by decide +kernel
theorem dX9_down_165 : decode cX9_down 165 = .ok (.istore 5, 2) := by decide +kernel
theorem dX9_down_167 : decode cX9_down 167 = .ok (.goto 22, 3) := by decide +kernel
theorem dX9_down_170 : decode cX9_down 170 = .ok (.iload 4, 2) := by decide +kernel
theorem dX9_down_172 : decode cX9_down 172 = .ok (.iload 7, 2) := by decide +kernel
theorem dX9_down_174 : decode cX9_down 174 = .ok (.iadd, 1) := by decide +kernel
theorem dX9_down_175 : decode cX9_down 175 = .ok (.istore 4, 2) := by decide +kernel
theorem dX9_down_177 : decode cX9_down 177 = .ok (.iload 6, 2) := by decide +kernel
theorem dX9_down_179 : decode cX9_down 179 = .ok (.iload 7, 2) := by decide +kernel
theorem dX9_down_181 : decode cX9_down 181 = .ok (.isub, 1) := by decide +kernel
theorem dX9_down_182 : decode cX9_down 182 = .ok (.istore 6, 2) := by decide +kernel
theorem dX9_down_184 : decode cX9_down 184 = .ok (.aload_n 0, 1) := by decide +kernel
theorem dX9_down_185 : decode cX9_down 185 = .ok (.iconst 0, 1) := by decide +kernel
theorem dX9_down_186 : decode cX9_down 186 = .ok (.putfield 374, 3) := by decide +kernel
theorem dX9_down_189 : decode cX9_down 189 = .ok (.aload_n 0, 1) := by decide +kernel
theorem dX9_down_190 : decode cX9_down 190 = .ok (.dup, 1) := by decide +kernel
theorem dX9_down_191 : decode cX9_down 191 = .ok (.getfield 378, 3) := by decide +kernel
theorem dX9_down_194 : decode cX9_down 194 = .ok (.iconst 1, 1) := by decide +kernel
theorem dX9_down_195 : decode cX9_down 195 = .ok (.iadd, 1) := by decide +kernel
theorem dX9_down_196 : decode cX9_down 196 = .ok (.putfield 378, 3) := by decide +kernel
theorem dX9_down_199 : decode cX9_down 199 = .ok (.goto (-180), 3) := by decide +kernel
theorem dX9_down_202 : decode cX9_down 202 = .ok (.aload_n 0, 1) := by decide +kernel
theorem dX9_down_203 : decode cX9_down 203 = .ok (.iload 4, 2) := by decide +kernel
theorem dX9_down_205 : decode cX9_down 205 = .ok (.putfield 384, 3) := by decide +kernel
theorem dX9_down_208 : decode cX9_down 208 = .ok (.aload_n 0, 1) := by decide +kernel
theorem dX9_down_209 : decode cX9_down 209 = .ok (.iload 5, 2) := by decide +kernel
theorem dX9_down_211 : decode cX9_down 211 = .ok (.putfield 387, 3) := by decide +kernel
theorem dX9_down_214 : decode cX9_down 214 = .ok (.return_, 1) := by decide +kernel
theorem dX9_step_0 : decode cX9_step 0 = .ok (.iconst 0, 1) := by decide +kernel
theorem dX9_step_1 : decode cX9_step 1 = .ok (.istore_n 1, 1) := by decide +kernel
theorem dX9_step_2 : decode cX9_step 2 = .ok (.iload_n 1, 1) := by decide +kernel
theorem dX9_step_3 : decode cX9_step 3 = .ok (.bipush 32, 2) := by decide +kernel
theorem dX9_step_5 : decode cX9_step 5 = .ok (.if_icmp .ge 29, 3) := by decide +kernel
theorem dX9_step_8 : decode cX9_step 8 = .ok (.aload_n 0, 1) := by decide +kernel
theorem dX9_step_9 : decode cX9_step 9 = .ok (.getfield 199, 3) := by decide +kernel
theorem dX9_step_12 : decode cX9_step 12 = .ok (.bipush 32, 2) := by decide +kernel
theorem dX9_step_14 : decode cX9_step 14 = .ok (.aload_n 0, 1) := by decide +kernel
theorem dX9_step_15 : decode cX9_step 15 = .ok (.getfield 390, 3) := by decide +kernel
theorem dX9_step_18 : decode cX9_step 18 = .ok (.imul, 1) := by decide +kernel
theorem dX9_step_19 : decode cX9_step 19 = .ok (.iload_n 1, 1) := by decide +kernel
theorem dX9_step_20 : decode cX9_step 20 = .ok (.iadd, 1) := by decide +kernel
theorem dX9_step_21 : decode cX9_step 21 = .ok (.aload_n 0, 1) := by decide +kernel
theorem dX9_step_22 : decode cX9_step 22 = .ok (.getfield 178, 3) := by decide +kernel
theorem dX9_step_25 : decode cX9_step 25 = .ok (.iload_n 1, 1) := by decide +kernel
theorem dX9_step_26 : decode cX9_step 26 = .ok (.iaload, 1) := by decide +kernel
theorem dX9_step_27 : decode cX9_step 27 = .ok (.iastore, 1) := by decide +kernel
theorem dX9_step_28 : decode cX9_step 28 = .ok (.iinc 1 1, 3) := by decide +kernel
theorem dX9_step_31 : decode cX9_step 31 = .ok (.goto (-29), 3) := by decide +kernel
theorem dX9_step_34 : decode cX9_step 34 = .ok (.aload_n 0, 1) := by decide +kernel
theorem dX9_step_35 : decode cX9_step 35 = .ok (.dup, 1) := by decide +kernel
theorem dX9_step_36 : decode cX9_step 36 = .ok (.getfield 390, 3) := by decide +kernel
theorem dX9_step_39 : decode cX9_step 39 = .ok (.iconst 1, 1) := by decide +kernel
theorem dX9_step_40 : decode cX9_step 40 = .ok (.iadd, 1) := by decide +kernel
theorem dX9_step_41 : decode cX9_step 41 = .ok (.putfield 390, 3) := by decide +kernel
theorem dX9_step_44 : decode cX9_step 44 = .ok (.return_, 1) := by decide +kernel
theorem dX9_sides_0 : decode cX9_sides 0 = .ok (.aload_n 0, 1) := by decide +kernel
theorem dX9_sides_1 : decode cX9_sides 1 = .ok (.getfield 378, 3) := by decide +kernel
theorem dX9_sides_4 : decode cX9_sides 4 = .ok (.iconst 1, 1) := by decide +kernel
theorem dX9_sides_5 : decode cX9_sides 5 = .ok (.isub, 1) := by decide +kernel
theorem dX9_sides_6 : decode cX9_sides 6 = .ok (.istore_n 1, 1) := by decide +kernel
theorem dX9_sides_7 : decode cX9_sides 7 = .ok (.iload_n 1, 1) := by decide +kernel
theorem dX9_sides_8 : decode cX9_sides 8 = .ok (.ifCond .lt 29, 3) := by decide +kernel
theorem dX9_sides_11 : decode cX9_sides 11 = .ok (.aload_n 0, 1) := by decide +kernel
theorem dX9_sides_12 : decode cX9_sides 12 = .ok (.aload_n 0, 1) := by decide +kernel
theorem dX9_sides_13 : decode cX9_sides 13 = .ok (.getfield 205, 3) := by decide +kernel
theorem dX9_sides_16 : decode cX9_sides 16 = .ok (.iload_n 1, 1) := by decide +kernel
theorem dX9_sides_17 : decode cX9_sides 17 = .ok (.iaload, 1) := by decide +kernel
theorem dX9_sides_18 : decode cX9_sides 18 = .ok (.aload_n 0, 1) := by decide +kernel
theorem dX9_sides_19 : decode cX9_sides 19 = .ok (.getfield 208, 3) := by decide +kernel
theorem dX9_sides_22 : decode cX9_sides 22 = .ok (.iload_n 1, 1) := by decide +kernel
theorem dX9_sides_23 : decode cX9_sides 23 = .ok (.iaload, 1) := by decide +kernel
theorem dX9_sides_24 : decode cX9_sides 24 = .ok (.invokevirtual 366, 3) := by decide +kernel
theorem dX9_sides_27 : decode cX9_sides 27 = .ok (.aload_n 0, 1) := by decide +kernel
theorem dX9_sides_28 : decode cX9_sides 28 = .ok (.invokevirtual 393, 3) := by decide +kernel
theorem dX9_sides_31 : decode cX9_sides 31 = .ok (.iinc 1 (-1), 3) := by decide +kernel
theorem dX9_sides_34 : decode cX9_sides 34 = .ok (.goto (-27), 3) := by decide +kernel
theorem dX9_sides_37 : decode cX9_sides 37 = .ok (.return_, 1) := by decide +kernel
theorem dX9_path_0 : decode cX9_path 0 = .ok (.iload_n 2, 1) := by decide +kernel
theorem dX9_path_1 : decode cX9_path 1 = .ok (.iconst 1, 1) := by decide +kernel
theorem dX9_path_2 : decode cX9_path 2 = .ok (.aload_n 0, 1) := by decide +kernel
theorem dX9_path_3 : decode cX9_path 3 = .ok (.getfield 13, 3) := by decide +kernel
theorem dX9_path_6 : decode cX9_path 6 = .ok (.iconst 0, 1) := by decide +kernel
theorem dX9_path_7 : decode cX9_path 7 = .ok (.iaload, 1) := by decide +kernel
theorem dX9_path_8 : decode cX9_path 8 = .ok (.invokestatic 311, 3) := by decide +kernel
theorem dX9_path_11 : decode cX9_path 11 = .ok (.ifCond .eq 14, 3) := by decide +kernel
theorem dX9_path_14 : decode cX9_path 14 = .ok (.iload_n 1, 1) := by decide +kernel
theorem dX9_path_15 : decode cX9_path 15 = .ok (.iconst 0, 1) := by decide +kernel
theorem dX9_path_16 : decode cX9_path 16 = .ok (.iload_n 2, 1) := by decide +kernel
theorem dX9_path_17 : decode cX9_path 17 = .ok (.iconst 1, 1) := by decide +kernel
theorem dX9_path_18 : decode cX9_path 18 = .ok (.isub, 1) := by decide +kernel
theorem dX9_path_19 : decode cX9_path 19 = .ok (.invokestatic 311, 3) := by decide +kernel
theorem dX9_path_22 : decode cX9_path 22 = .ok (.ifCond .ne 5, 3) := by decide +kernel
theorem dX9_path_25 : decode cX9_path 25 = .ok (.iconst (-1), 1) := by decide +kernel
theorem dX9_path_26 : decode cX9_path 26 = .ok (.ireturn, 1) := by decide +kernel
theorem dX9_path_27 : decode cX9_path 27 = .ok (.aload_n 0, 1) := by decide +kernel
theorem dX9_path_28 : decode cX9_path 28 = .ok (.iconst 1, 1) := by decide +kernel
theorem dX9_path_29 : decode cX9_path 29 = .ok (.putfield 396, 3) := by decide +kernel
theorem dX9_path_32 : decode cX9_path 32 = .ok (.aload_n 0, 1) := by decide +kernel
theorem dX9_path_33 : decode cX9_path 33 = .ok (.iload_n 1, 1) := by decide +kernel
theorem dX9_path_34 : decode cX9_path 34 = .ok (.putfield 399, 3) := by decide +kernel
theorem dX9_path_37 : decode cX9_path 37 = .ok (.aload_n 0, 1) := by decide +kernel
theorem dX9_path_38 : decode cX9_path 38 = .ok (.iload_n 2, 1) := by decide +kernel
theorem dX9_path_39 : decode cX9_path 39 = .ok (.putfield 402, 3) := by decide +kernel
theorem dX9_path_42 : decode cX9_path 42 = .ok (.aload_n 0, 1) := by decide +kernel
theorem dX9_path_43 : decode cX9_path 43 = .ok (.iconst 0, 1) := by decide +kernel
theorem dX9_path_44 : decode cX9_path 44 = .ok (.putfield 390, 3) := by decide +kernel
theorem dX9_path_47 : decode cX9_path 47 = .ok (.aload_n 0, 1) := by decide +kernel
theorem dX9_path_48 : decode cX9_path 48 = .ok (.iload_n 1, 1) := by decide +kernel
theorem dX9_path_49 : decode cX9_path 49 = .ok (.iload_n 2, 1) := by decide +kernel
theorem dX9_path_50 : decode cX9_path 50 = .ok (.iconst 1, 1) := by decide +kernel
theorem dX9_path_51 : decode cX9_path 51 = .ok (.invokevirtual 405, 3) := by decide +kernel
theorem dX9_path_54 : decode cX9_path 54 = .ok (.aload_n 0, 1) := by decide +kernel
theorem dX9_path_55 : decode cX9_path 55 = .ok (.invokevirtual 409, 3) := by decide +kernel
theorem dX9_path_58 : decode cX9_path 58 = .ok (.aload_n 0, 1) := by decide +kernel
theorem dX9_path_59 : decode cX9_path 59 = .ok (.getfield 390, 3) := by decide +kernel
theorem dX9_path_62 : decode cX9_path 62 = .ok (.ireturn, 1) := by decide +kernel
theorem dX9_proof_0 : decode cX9_proof 0 = .ok (.iload_n 2, 1) := by decide +kernel
theorem dX9_proof_1 : decode cX9_proof 1 = .ok (.iconst 2, 1) := by decide +kernel
theorem dX9_proof_2 : decode cX9_proof 2 = .ok (.aload_n 0, 1) := by decide +kernel
theorem dX9_proof_3 : decode cX9_proof 3 = .ok (.getfield 13, 3) := by decide +kernel
theorem dX9_proof_6 : decode cX9_proof 6 = .ok (.iconst 0, 1) := by decide +kernel
theorem dX9_proof_7 : decode cX9_proof 7 = .ok (.iaload, 1) := by decide +kernel
theorem dX9_proof_8 : decode cX9_proof 8 = .ok (.invokestatic 311, 3) := by decide +kernel
theorem dX9_proof_11 : decode cX9_proof 11 = .ok (.ifCond .eq 14, 3) := by decide +kernel
theorem dX9_proof_14 : decode cX9_proof 14 = .ok (.iload_n 1, 1) := by decide +kernel
theorem dX9_proof_15 : decode cX9_proof 15 = .ok (.iconst 1, 1) := by decide +kernel
theorem dX9_proof_16 : decode cX9_proof 16 = .ok (.iload_n 2, 1) := by decide +kernel
theorem dX9_proof_17 : decode cX9_proof 17 = .ok (.iconst 1, 1) := by decide +kernel
theorem dX9_proof_18 : decode cX9_proof 18 = .ok (.isub, 1) := by decide +kernel
theorem dX9_proof_19 : decode cX9_proof 19 = .ok (.invokestatic 311, 3) := by decide +kernel
theorem dX9_proof_22 : decode cX9_proof 22 = .ok (.ifCond .ne 5, 3) := by decide +kernel
theorem dX9_proof_25 : decode cX9_proof 25 = .ok (.iconst (-1), 1) := by decide +kernel
theorem dX9_proof_26 : decode cX9_proof 26 = .ok (.ireturn, 1) := by decide +kernel
theorem dX9_proof_27 : decode cX9_proof 27 = .ok (.aload_n 0, 1) := by decide +kernel
theorem dX9_proof_28 : decode cX9_proof 28 = .ok (.iconst 2, 1) := by decide +kernel
theorem dX9_proof_29 : decode cX9_proof 29 = .ok (.putfield 396, 3) := by decide +kernel
theorem dX9_proof_32 : decode cX9_proof 32 = .ok (.aload_n 0, 1) := by decide +kernel
theorem dX9_proof_33 : decode cX9_proof 33 = .ok (.iload_n 1, 1) := by decide +kernel
theorem dX9_proof_34 : decode cX9_proof 34 = .ok (.putfield 399, 3) := by decide +kernel
theorem dX9_proof_37 : decode cX9_proof 37 = .ok (.aload_n 0, 1) := by decide +kernel
theorem dX9_proof_38 : decode cX9_proof 38 = .ok (.iload_n 2, 1) := by decide +kernel
theorem dX9_proof_39 : decode cX9_proof 39 = .ok (.putfield 402, 3) := by decide +kernel
theorem dX9_proof_42 : decode cX9_proof 42 = .ok (.aload_n 0, 1) := by decide +kernel
theorem dX9_proof_43 : decode cX9_proof 43 = .ok (.iconst 0, 1) := by decide +kernel
theorem dX9_proof_44 : decode cX9_proof 44 = .ok (.putfield 390, 3) := by decide +kernel
theorem dX9_proof_47 : decode cX9_proof 47 = .ok (.aload_n 0, 1) := by decide +kernel
theorem dX9_proof_48 : decode cX9_proof 48 = .ok (.iload_n 1, 1) := by decide +kernel
theorem dX9_proof_49 : decode cX9_proof 49 = .ok (.iload_n 2, 1) := by decide +kernel
theorem dX9_proof_50 : decode cX9_proof 50 = .ok (.iconst 0, 1) := by decide +kernel
theorem dX9_proof_51 : decode cX9_proof 51 = .ok (.invokevirtual 405, 3) := by decide +kernel
theorem dX9_proof_54 : decode cX9_proof 54 = .ok (.aload_n 0, 1) := by decide +kernel
theorem dX9_proof_55 : decode cX9_proof 55 = .ok (.getfield 374, 3) := by decide +kernel
theorem dX9_proof_58 : decode cX9_proof 58 = .ok (.ifCond .ne 19, 3) := by decide +kernel
theorem dX9_proof_61 : decode cX9_proof 61 = .ok (.aload_n 0, 1) := by decide +kernel
theorem dX9_proof_62 : decode cX9_proof 62 = .ok (.aload_n 0, 1) := by decide +kernel
theorem dX9_proof_63 : decode cX9_proof 63 = .ok (.getfield 384, 3) := by decide +kernel
theorem dX9_proof_66 : decode cX9_proof 66 = .ok (.aload_n 0, 1) := by decide +kernel
theorem dX9_proof_67 : decode cX9_proof 67 = .ok (.getfield 387, 3) := by decide +kernel
theorem dX9_proof_70 : decode cX9_proof 70 = .ok (.invokevirtual 366, 3) := by decide +kernel
theorem dX9_proof_73 : decode cX9_proof 73 = .ok (.aload_n 0, 1) := by decide +kernel
theorem dX9_proof_74 : decode cX9_proof 74 = .ok (.invokevirtual 393, 3) := by decide +kernel
theorem dX9_proof_77 : decode cX9_proof 77 = .ok (.aload_n 0, 1) := by decide +kernel
theorem dX9_proof_78 : decode cX9_proof 78 = .ok (.invokevirtual 409, 3) := by decide +kernel
theorem dX9_proof_81 : decode cX9_proof 81 = .ok (.aload_n 0, 1) := by decide +kernel
theorem dX9_proof_82 : decode cX9_proof 82 = .ok (.getfield 390, 3) := by decide +kernel
theorem dX9_proof_85 : decode cX9_proof 85 = .ok (.ireturn, 1) := by decide +kernel
theorem dX9_step__0 : decode cX9_step_ 0 = .ok (.aload_n 0, 1) := by decide +kernel
theorem dX9_step__1 : decode cX9_step_ 1 = .ok (.getfield 396, 3) := by decide +kernel
theorem dX9_step__4 : decode cX9_step_ 4 = .ok (.ifCond .le 41, 3) := by decide +kernel
theorem dX9_step__7 : decode cX9_step_ 7 = .ok (.iload_n 1, 1) := by decide +kernel
theorem dX9_step__8 : decode cX9_step_ 8 = .ok (.iconst 0, 1) := by decide +kernel
theorem dX9_step__9 : decode cX9_step_ 9 = .ok (.aload_n 0, 1) := by decide +kernel
theorem dX9_step__10 : decode cX9_step_ 10 = .ok (.getfield 390, 3) := by decide +kernel
theorem dX9_step__13 : decode cX9_step_ 13 = .ok (.iconst 1, 1) := by decide +kernel
theorem dX9_step__14 : decode cX9_step_ 14 = .ok (.isub, 1) := by decide +kernel
theorem dX9_step__15 : decode cX9_step_ 15 = .ok (.invokestatic 311, 3) := by decide +kernel
theorem dX9_step__18 : decode cX9_step_ 18 = .ok (.ifCond .eq 27, 3) := by decide +kernel
theorem dX9_step__21 : decode cX9_step_ 21 = .ok (.iload_n 2, 1) := by decide +kernel
theorem dX9_step__22 : decode cX9_step_ 22 = .ok (.iconst 0, 1) := by decide +kernel
theorem dX9_step__23 : decode cX9_step_ 23 = .ok (.bipush 31, 2) := by decide +kernel
theorem dX9_step__25 : decode cX9_step_ 25 = .ok (.invokestatic 311, 3) := by decide +kernel
theorem dX9_step__28 : decode cX9_step_ 28 = .ok (.ifCond .eq 17, 3) := by decide +kernel
theorem dX9_step__31 : decode cX9_step_ 31 = .ok (.aload_n 0, 1) := by decide +kernel
theorem dX9_step__32 : decode cX9_step_ 32 = .ok (.getfield 199, 3) := by decide +kernel
theorem dX9_step__35 : decode cX9_step_ 35 = .ok (.bipush 32, 2) := by decide +kernel
theorem dX9_step__37 : decode cX9_step_ 37 = .ok (.iload_n 1, 1) := by decide +kernel
theorem dX9_step__38 : decode cX9_step_ 38 = .ok (.imul, 1) := by decide +kernel
theorem dX9_step__39 : decode cX9_step_ 39 = .ok (.iload_n 2, 1) := by decide +kernel
theorem dX9_step__40 : decode cX9_step_ 40 = .ok (.iadd, 1) := by decide +kernel
theorem dX9_step__41 : decode cX9_step_ 41 = .ok (.iaload, 1) := by decide +kernel
theorem dX9_step__42 : decode cX9_step_ 42 = .ok (.goto 4, 3) := by decide +kernel
theorem dX9_step__45 : decode cX9_step_ 45 = .ok (.iconst (-1), 1) := by decide +kernel
theorem dX9_step__46 : decode cX9_step_ 46 = .ok (.ireturn, 1) := by decide +kernel
theorem dX9_beside_0 : decode cX9_beside 0 = .ok (.aload_n 0, 1) := by decide +kernel
theorem dX9_beside_1 : decode cX9_beside 1 = .ok (.iconst 1, 1) := by decide +kernel
theorem dX9_beside_2 : decode cX9_beside 2 = .ok (.invokevirtual 330, 3) := by decide +kernel
theorem dX9_beside_5 : decode cX9_beside 5 = .ok (.iconst 0, 1) := by decide +kernel
theorem dX9_beside_6 : decode cX9_beside 6 = .ok (.istore 4, 2) := by decide +kernel
theorem dX9_beside_8 : decode cX9_beside 8 = .ok (.iload 4, 2) := by decide +kernel
theorem dX9_beside_10 : decode cX9_beside 10 = .ok (.bipush 32, 2) := by decide +kernel
theorem dX9_beside_12 : decode cX9_beside 12 = .ok (.if_icmp .ge 36, 3) := by decide +kernel
theorem dX9_beside_15 : decode cX9_beside 15 = .ok (.aload_n 0, 1) := by decide +kernel
theorem dX9_beside_16 : decode cX9_beside 16 = .ok (.iload_n 3, 1) := by decide +kernel
theorem dX9_beside_17 : decode cX9_beside 17 = .ok (.ifCond .eq 18, 3) := by decide +kernel
theorem dX9_beside_20 : decode cX9_beside 20 = .ok (.aload_n 0, 1) := by decide +kernel
theorem dX9_beside_21 : decode cX9_beside 21 = .ok (.getfield 199, 3) := by decide +kernel
theorem dX9_beside_24 : decode cX9_beside 24 = .ok (.bipush 32, 2) := by decide +kernel
theorem dX9_beside_26 : decode cX9_beside 26 = .ok (.iload_n 2, 1) := by decide +kernel
theorem dX9_beside_27 : decode cX9_beside 27 = .ok (.imul, 1) := by decide +kernel
theorem dX9_beside_28 : decode cX9_beside 28 = .ok (.iload 4, 2) := by decide +kernel
theorem dX9_beside_30 : decode cX9_beside 30 = .ok (.iadd, 1) := by decide +kernel
theorem dX9_beside_31 : decode cX9_beside 31 = .ok (.iaload, 1) := by decide +kernel
theorem dX9_beside_32 : decode cX9_beside 32 = .ok (.goto 7, 3) := by decide +kernel
theorem dX9_beside_35 : decode cX9_beside 35 = .ok (.aload_n 1, 1) := by decide +kernel
theorem dX9_beside_36 : decode cX9_beside 36 = .ok (.iload 4, 2) := by decide +kernel
theorem dX9_beside_38 : decode cX9_beside 38 = .ok (.iaload, 1) := by decide +kernel
theorem dX9_beside_39 : decode cX9_beside 39 = .ok (.invokevirtual 330, 3) := by decide +kernel
theorem dX9_beside_42 : decode cX9_beside 42 = .ok (.iinc 4 1, 3) := by decide +kernel
theorem dX9_beside_45 : decode cX9_beside 45 = .ok (.goto (-37), 3) := by decide +kernel
theorem dX9_beside_48 : decode cX9_beside 48 = .ok (.iconst 0, 1) := by decide +kernel
theorem dX9_beside_49 : decode cX9_beside 49 = .ok (.istore 4, 2) := by decide +kernel
theorem dX9_beside_51 : decode cX9_beside 51 = .ok (.iload 4, 2) := by decide +kernel
theorem dX9_beside_53 : decode cX9_beside 53 = .ok (.bipush 32, 2) := by decide +kernel
theorem dX9_beside_55 : decode cX9_beside 55 = .ok (.if_icmp .ge 36, 3) := by decide +kernel
theorem dX9_beside_58 : decode cX9_beside 58 = .ok (.aload_n 0, 1) := by decide +kernel
theorem dX9_beside_59 : decode cX9_beside 59 = .ok (.iload_n 3, 1) := by decide +kernel
theorem dX9_beside_60 : decode cX9_beside 60 = .ok (.ifCond .eq 10, 3) := by decide +kernel
theorem dX9_beside_63 : decode cX9_beside 63 = .ok (.aload_n 1, 1) := by decide +kernel
theorem dX9_beside_64 : decode cX9_beside 64 = .ok (.iload 4, 2) := by decide +kernel
theorem dX9_beside_66 : decode cX9_beside 66 = .ok (.iaload, 1) := by decide +kernel
theorem dX9_beside_67 : decode cX9_beside 67 = .ok (.goto 15, 3) := by decide +kernel
theorem dX9_beside_70 : decode cX9_beside 70 = .ok (.aload_n 0, 1) := by decide +kernel
theorem dX9_beside_71 : decode cX9_beside 71 = .ok (.getfield 199, 3) := by decide +kernel
theorem dX9_beside_74 : decode cX9_beside 74 = .ok (.bipush 32, 2) := by decide +kernel
theorem dX9_beside_76 : decode cX9_beside 76 = .ok (.iload_n 2, 1) := by decide +kernel
theorem dX9_beside_77 : decode cX9_beside 77 = .ok (.imul, 1) := by decide +kernel
theorem dX9_beside_78 : decode cX9_beside 78 = .ok (.iload 4, 2) := by decide +kernel
theorem dX9_beside_80 : decode cX9_beside 80 = .ok (.iadd, 1) := by decide +kernel
theorem dX9_beside_81 : decode cX9_beside 81 = .ok (.iaload, 1) := by decide +kernel
theorem dX9_beside_82 : decode cX9_beside 82 = .ok (.invokevirtual 330, 3) := by decide +kernel
theorem dX9_beside_85 : decode cX9_beside 85 = .ok (.iinc 4 1, 3) := by decide +kernel
theorem dX9_beside_88 : decode cX9_beside 88 = .ok (.goto (-37), 3) := by decide +kernel
theorem dX9_beside_91 : decode cX9_beside 91 = .ok (.aload_n 0, 1) := by decide +kernel
theorem dX9_beside_92 : decode cX9_beside 92 = .ok (.invokevirtual 351, 3) := by decide +kernel
theorem dX9_beside_95 : decode cX9_beside 95 = .ok (.iconst 0, 1) := by decide +kernel
theorem dX9_beside_96 : decode cX9_beside 96 = .ok (.istore 4, 2) := by decide +kernel
theorem dX9_beside_98 : decode cX9_beside 98 = .ok (.iload 4, 2) := by decide +kernel
theorem dX9_beside_100 : decode cX9_beside 100 = .ok (.bipush 32, 2) := by decide +kernel
theorem dX9_beside_102 : decode cX9_beside 102 = .ok (.if_icmp .ge 20, 3) := by decide +kernel
theorem dX9_beside_105 : decode cX9_beside 105 = .ok (.aload_n 1, 1) := by decide +kernel
theorem dX9_beside_106 : decode cX9_beside 106 = .ok (.iload 4, 2) := by decide +kernel
theorem dX9_beside_108 : decode cX9_beside 108 = .ok (.aload_n 0, 1) := by decide +kernel
theorem dX9_beside_109 : decode cX9_beside 109 = .ok (.getfield 178, 3) := by decide +kernel
theorem dX9_beside_112 : decode cX9_beside 112 = .ok (.iload 4, 2) := by decide +kernel
theorem dX9_beside_114 : decode cX9_beside 114 = .ok (.iaload, 1) := by decide +kernel
theorem dX9_beside_115 : decode cX9_beside 115 = .ok (.iastore, 1) := by decide +kernel
theorem dX9_beside_116 : decode cX9_beside 116 = .ok (.iinc 4 1, 3) := by decide +kernel
theorem dX9_beside_119 : decode cX9_beside 119 = .ok (.goto (-21), 3) := by decide +kernel
theorem dX9_beside_122 : decode cX9_beside 122 = .ok (.return_, 1) := by decide +kernel
theorem dX9_isHead_0 : decode cX9_isHead 0 = .ok (.iconst 1, 1) := by decide +kernel
theorem dX9_isHead_1 : decode cX9_isHead 1 = .ok (.istore_n 3, 1) := by decide +kernel
theorem dX9_isHead_2 : decode cX9_isHead 2 = .ok (.iconst 0, 1) := by decide +kernel
theorem dX9_isHead_3 : decode cX9_isHead 3 = .ok (.istore 4, 2) := by decide +kernel
theorem dX9_isHead_5 : decode cX9_isHead 5 = .ok (.iload 4, 2) := by decide +kernel
theorem dX9_isHead_7 : decode cX9_isHead 7 = .ok (.bipush 32, 2) := by decide +kernel
theorem dX9_isHead_9 : decode cX9_isHead 9 = .ok (.if_icmp .ge 38, 3) := by decide +kernel
theorem dX9_isHead_12 : decode cX9_isHead 12 = .ok (.iload_n 3, 1) := by decide +kernel
theorem dX9_isHead_13 : decode cX9_isHead 13 = .ok (.ifCond .eq 26, 3) := by decide +kernel
theorem dX9_isHead_16 : decode cX9_isHead 16 = .ok (.aload_n 1, 1) := by decide +kernel
theorem dX9_isHead_17 : decode cX9_isHead 17 = .ok (.iload 4, 2) := by decide +kernel
theorem dX9_isHead_19 : decode cX9_isHead 19 = .ok (.iaload, 1) := by decide +kernel
theorem dX9_isHead_20 : decode cX9_isHead 20 = .ok (.aload_n 0, 1) := by decide +kernel
theorem dX9_isHead_21 : decode cX9_isHead 21 = .ok (.getfield 196, 3) := by decide +kernel
theorem dX9_isHead_24 : decode cX9_isHead 24 = .ok (.bipush 32, 2) := by decide +kernel
theorem dX9_isHead_26 : decode cX9_isHead 26 = .ok (.iload_n 2, 1) := by decide +kernel
theorem dX9_isHead_27 : decode cX9_isHead 27 = .ok (.imul, 1) := by decide +kernel
theorem dX9_isHead_28 : decode cX9_isHead 28 = .ok (.iload 4, 2) := by decide +kernel
theorem dX9_isHead_30 : decode cX9_isHead 30 = .ok (.iadd, 1) := by decide +kernel
theorem dX9_isHead_31 : decode cX9_isHead 31 = .ok (.iaload, 1) := by decide +kernel
theorem dX9_isHead_32 : decode cX9_isHead 32 = .ok (.if_icmp .ne 7, 3) := by decide +kernel
theorem dX9_isHead_35 : decode cX9_isHead 35 = .ok (.iconst 1, 1) := by decide +kernel
theorem dX9_isHead_36 : decode cX9_isHead 36 = .ok (.goto 4, 3) := by decide +kernel
theorem dX9_isHead_39 : decode cX9_isHead 39 = .ok (.iconst 0, 1) := by decide +kernel
theorem dX9_isHead_40 : decode cX9_isHead 40 = .ok (.istore_n 3, 1) := by decide +kernel
theorem dX9_isHead_41 : decode cX9_isHead 41 = .ok (.iinc 4 1, 3) := by decide +kernel
theorem dX9_isHead_44 : decode cX9_isHead 44 = .ok (.goto (-39), 3) := by decide +kernel
theorem dX9_isHead_47 : decode cX9_isHead 47 = .ok (.iload_n 3, 1) := by decide +kernel
theorem dX9_isHead_48 : decode cX9_isHead 48 = .ok (.ireturn, 1) := by decide +kernel
theorem dX9_isHeadOf_0 : decode cX9_isHeadOf 0 = .ok (.iload_n 1, 1) := by decide +kernel
theorem dX9_isHeadOf_1 : decode cX9_isHeadOf 1 = .ok (.iconst 0, 1) := by decide +kernel
theorem dX9_isHeadOf_2 : decode cX9_isHeadOf 2 = .ok (.bipush 7, 2) := by decide +kernel
theorem dX9_isHeadOf_4 : decode cX9_isHeadOf 4 = .ok (.invokestatic 311, 3) := by decide +kernel
theorem dX9_isHeadOf_7 : decode cX9_isHeadOf 7 = .ok (.ifCond .eq 26, 3) := by decide +kernel
theorem dX9_isHeadOf_10 : decode cX9_isHeadOf 10 = .ok (.aload_n 0, 1) := by decide +kernel
theorem dX9_isHeadOf_11 : decode cX9_isHeadOf 11 = .ok (.getfield 190, 3) := by decide +kernel
theorem dX9_isHeadOf_14 : decode cX9_isHeadOf 14 = .ok (.iload_n 1, 1) := by decide +kernel
theorem dX9_isHeadOf_15 : decode cX9_isHeadOf 15 = .ok (.baload, 1) := by decide +kernel
theorem dX9_isHeadOf_16 : decode cX9_isHeadOf 16 = .ok (.ifCond .eq 17, 3) := by decide +kernel
theorem dX9_isHeadOf_19 : decode cX9_isHeadOf 19 = .ok (.aload_n 0, 1) := by decide +kernel
theorem dX9_isHeadOf_20 : decode cX9_isHeadOf 20 = .ok (.getfield 187, 3) := by decide +kernel
theorem dX9_isHeadOf_23 : decode cX9_isHeadOf 23 = .ok (.iload_n 1, 1) := by decide +kernel
theorem dX9_isHeadOf_24 : decode cX9_isHeadOf 24 = .ok (.iaload, 1) := by decide +kernel
theorem dX9_isHeadOf_25 : decode cX9_isHeadOf 25 = .ok (.iload_n 2, 1) := by decide +kernel
theorem dX9_isHeadOf_26 : decode cX9_isHeadOf 26 = .ok (.if_icmp .ne 7, 3) := by decide +kernel
theorem dX9_isHeadOf_29 : decode cX9_isHeadOf 29 = .ok (.iconst 1, 1) := by decide +kernel
theorem dX9_isHeadOf_30 : decode cX9_isHeadOf 30 = .ok (.goto 4, 3) := by decide +kernel
theorem dX9_isHeadOf_33 : decode cX9_isHeadOf 33 = .ok (.iconst 0, 1) := by decide +kernel
theorem dX9_isHeadOf_34 : decode cX9_isHeadOf 34 = .ok (.ireturn, 1) := by decide +kernel
theorem dX9_leads_0 : decode cX9_leads 0 = .ok (.aload_n 0, 1) := by decide +kernel
theorem dX9_leads_1 : decode cX9_leads 1 = .ok (.getfield 396, 3) := by decide +kernel
theorem dX9_leads_4 : decode cX9_leads 4 = .ok (.ifCond .eq 35, 3) := by decide +kernel
theorem dX9_leads_7 : decode cX9_leads 7 = .ok (.aload_n 0, 1) := by decide +kernel
theorem dX9_leads_8 : decode cX9_leads 8 = .ok (.iload_n 2, 1) := by decide +kernel
theorem dX9_leads_9 : decode cX9_leads 9 = .ok (.aload_n 0, 1) := by decide +kernel
theorem dX9_leads_10 : decode cX9_leads 10 = .ok (.getfield 402, 3) := by decide +kernel
theorem dX9_leads_13 : decode cX9_leads 13 = .ok (.invokevirtual 412, 3) := by decide +kernel
theorem dX9_leads_16 : decode cX9_leads 16 = .ok (.ifCond .eq 23, 3) := by decide +kernel
theorem dX9_leads_19 : decode cX9_leads 19 = .ok (.aload_n 0, 1) := by decide +kernel
theorem dX9_leads_20 : decode cX9_leads 20 = .ok (.getfield 396, 3) := by decide +kernel
theorem dX9_leads_23 : decode cX9_leads 23 = .ok (.iconst 2, 1) := by decide +kernel
theorem dX9_leads_24 : decode cX9_leads 24 = .ok (.if_icmp .ne 17, 3) := by decide +kernel
theorem dX9_leads_27 : decode cX9_leads 27 = .ok (.aload_n 0, 1) := by decide +kernel
theorem dX9_leads_28 : decode cX9_leads 28 = .ok (.iload_n 1, 1) := by decide +kernel
theorem dX9_leads_29 : decode cX9_leads 29 = .ok (.aload_n 0, 1) := by decide +kernel
theorem dX9_leads_30 : decode cX9_leads 30 = .ok (.getfield 399, 3) := by decide +kernel
theorem dX9_leads_33 : decode cX9_leads 33 = .ok (.invokevirtual 412, 3) := by decide +kernel
theorem dX9_leads_36 : decode cX9_leads 36 = .ok (.ifCond .ne 5, 3) := by decide +kernel
theorem dX9_leads_39 : decode cX9_leads 39 = .ok (.iconst (-1), 1) := by decide +kernel
theorem dX9_leads_40 : decode cX9_leads 40 = .ok (.ireturn, 1) := by decide +kernel
theorem dX9_leads_41 : decode cX9_leads 41 = .ok (.aload_n 0, 1) := by decide +kernel
theorem dX9_leads_42 : decode cX9_leads 42 = .ok (.aload_n 0, 1) := by decide +kernel
theorem dX9_leads_43 : decode cX9_leads 43 = .ok (.getfield 399, 3) := by decide +kernel
theorem dX9_leads_46 : decode cX9_leads 46 = .ok (.aload_n 0, 1) := by decide +kernel
theorem dX9_leads_47 : decode cX9_leads 47 = .ok (.getfield 402, 3) := by decide +kernel
theorem dX9_leads_50 : decode cX9_leads 50 = .ok (.aload_n 0, 1) := by decide +kernel
theorem dX9_leads_51 : decode cX9_leads 51 = .ok (.getfield 396, 3) := by decide +kernel
theorem dX9_leads_54 : decode cX9_leads 54 = .ok (.iconst 1, 1) := by decide +kernel
theorem dX9_leads_55 : decode cX9_leads 55 = .ok (.if_icmp .ne 7, 3) := by decide +kernel
theorem dX9_leads_58 : decode cX9_leads 58 = .ok (.iconst 1, 1) := by decide +kernel
theorem dX9_leads_59 : decode cX9_leads 59 = .ok (.goto 4, 3) := by decide +kernel
theorem dX9_leads_62 : decode cX9_leads 62 = .ok (.iconst 0, 1) := by decide +kernel
theorem dX9_leads_63 : decode cX9_leads 63 = .ok (.invokevirtual 405, 3) := by decide +kernel
theorem dX9_leads_66 : decode cX9_leads 66 = .ok (.iconst 0, 1) := by decide +kernel
theorem dX9_leads_67 : decode cX9_leads 67 = .ok (.istore_n 3, 1) := by decide +kernel
theorem dX9_leads_68 : decode cX9_leads 68 = .ok (.aload_n 0, 1) := by decide +kernel
theorem dX9_leads_69 : decode cX9_leads 69 = .ok (.getfield 396, 3) := by decide +kernel
theorem dX9_leads_72 : decode cX9_leads 72 = .ok (.iconst 1, 1) := by decide +kernel
theorem dX9_leads_73 : decode cX9_leads 73 = .ok (.if_icmp .ne 44, 3) := by decide +kernel
theorem dX9_leads_76 : decode cX9_leads 76 = .ok (.aload_n 0, 1) := by decide +kernel
theorem dX9_leads_77 : decode cX9_leads 77 = .ok (.aload_n 0, 1) := by decide +kernel
theorem dX9_leads_78 : decode cX9_leads 78 = .ok (.getfield 399, 3) := by decide +kernel
theorem dX9_leads_81 : decode cX9_leads 81 = .ok (.invokevirtual 354, 3) := by decide +kernel
theorem dX9_leads_84 : decode cX9_leads 84 = .ok (.iconst 0, 1) := by decide +kernel
theorem dX9_leads_85 : decode cX9_leads 85 = .ok (.istore 4, 2) := by decide +kernel
theorem dX9_leads_87 : decode cX9_leads 87 = .ok (.iload 4, 2) := by decide +kernel
theorem dX9_leads_89 : decode cX9_leads 89 = .ok (.bipush 32, 2) := by decide +kernel
theorem dX9_leads_91 : decode cX9_leads 91 = .ok (.if_icmp .ge 23, 3) := by decide +kernel
theorem dX9_leads_94 : decode cX9_leads 94 = .ok (.aload_n 0, 1) := by decide +kernel
theorem dX9_leads_95 : decode cX9_leads 95 = .ok (.getfield 214, 3) := by decide +kernel
theorem dX9_leads_98 : decode cX9_leads 98 = .ok (.iload 4, 2) := by decide +kernel
theorem dX9_leads_100 : decode cX9_leads 100 = .ok (.aload_n 0, 1) := by decide +kernel
theorem dX9_leads_101 : decode cX9_leads 101 = .ok (.getfield 178, 3) := by decide +kernel
theorem dX9_leads_104 : decode cX9_leads 104 = .ok (.iload 4, 2) := by decide +kernel
theorem dX9_leads_106 : decode cX9_leads 106 = .ok (.iaload, 1) := by decide +kernel
theorem dX9_leads_107 : decode cX9_leads 107 = .ok (.iastore, 1) := by decide +kernel
theorem dX9_leads_108 : decode cX9_leads 108 = .ok (.iinc 4 1, 3) := by decide +kernel
theorem dX9_leads_111 : decode cX9_leads 111 = .ok (.goto (-24), 3) := by decide +kernel
theorem dX9_leads_114 : decode cX9_leads 114 = .ok (.goto 82, 3) := by decide +kernel
theorem dX9_leads_117 : decode cX9_leads 117 = .ok (.iconst 0, 1) := by decide +kernel
theorem dX9_leads_118 : decode cX9_leads 118 = .ok (.istore 4, 2) := by decide +kernel
theorem dX9_leads_120 : decode cX9_leads 120 = .ok (.iload 4, 2) := by decide +kernel
theorem dX9_leads_122 : decode cX9_leads 122 = .ok (.bipush 32, 2) := by decide +kernel
theorem dX9_leads_124 : decode cX9_leads 124 = .ok (.if_icmp .ge 59, 3) := by decide +kernel
theorem dX9_leads_127 : decode cX9_leads 127 = .ok (.aload_n 0, 1) := by decide +kernel
theorem dX9_leads_128 : decode cX9_leads 128 = .ok (.getfield 211, 3) := by decide +kernel
theorem dX9_leads_131 : decode cX9_leads 131 = .ok (.iload 4, 2) := by decide +kernel
theorem dX9_leads_133 : decode cX9_leads 133 = .ok (.aload_n 0, 1) := by decide +kernel
theorem dX9_leads_134 : decode cX9_leads 134 = .ok (.getfield 374, 3) := by decide +kernel
theorem dX9_leads_137 : decode cX9_leads 137 = .ok (.ifCond .eq 18, 3) := by decide +kernel
theorem dX9_leads_140 : decode cX9_leads 140 = .ok (.aload_n 0, 1) := by decide +kernel
theorem dX9_leads_141 : decode cX9_leads 141 = .ok (.getfield 196, 3) := by decide +kernel
theorem dX9_leads_144 : decode cX9_leads 144 = .ok (.bipush 32, 2) := by decide +kernel
theorem dX9_leads_146 : decode cX9_leads 146 = .ok (.iload_n 1, 1) := by decide +kernel
theorem dX9_leads_147 : decode cX9_leads 147 = .ok (.imul, 1) := by decide +kernel
theorem dX9_leads_148 : decode cX9_leads 148 = .ok (.iload 4, 2) := by decide +kernel
theorem dX9_leads_150 : decode cX9_leads 150 = .ok (.iadd, 1) := by decide +kernel
theorem dX9_leads_151 : decode cX9_leads 151 = .ok (.iaload, 1) := by decide +kernel
theorem dX9_leads_152 : decode cX9_leads 152 = .ok (.goto 10, 3) := by decide +kernel
theorem dX9_leads_155 : decode cX9_leads 155 = .ok (.aload_n 0, 1) := by decide +kernel
theorem dX9_leads_156 : decode cX9_leads 156 = .ok (.getfield 199, 3) := by decide +kernel
theorem dX9_leads_159 : decode cX9_leads 159 = .ok (.iload 4, 2) := by decide +kernel
theorem dX9_leads_161 : decode cX9_leads 161 = .ok (.iaload, 1) := by decide +kernel
theorem dX9_leads_162 : decode cX9_leads 162 = .ok (.iastore, 1) := by decide +kernel
theorem dX9_leads_163 : decode cX9_leads 163 = .ok (.aload_n 0, 1) := by decide +kernel
theorem dX9_leads_164 : decode cX9_leads 164 = .ok (.getfield 214, 3) := by decide +kernel
theorem dX9_leads_167 : decode cX9_leads 167 = .ok (.iload 4, 2) := by decide +kernel
theorem dX9_leads_169 : decode cX9_leads 169 = .ok (.aload_n 0, 1) := by decide +kernel
theorem dX9_leads_170 : decode cX9_leads 170 = .ok (.getfield 211, 3) := by decide +kernel
theorem dX9_leads_173 : decode cX9_leads 173 = .ok (.iload 4, 2) := by decide +kernel
theorem dX9_leads_175 : decode cX9_leads 175 = .ok (.iaload, 1) := by decide +kernel
theorem dX9_leads_176 : decode cX9_leads 176 = .ok (.iastore, 1) := by decide +kernel
theorem dX9_leads_177 : decode cX9_leads 177 = .ok (.iinc 4 1, 3) := by decide +kernel
theorem dX9_leads_180 : decode cX9_leads 180 = .ok (.goto (-60), 3) := by decide +kernel
theorem dX9_leads_183 : decode cX9_leads 183 = .ok (.aload_n 0, 1) := by decide +kernel
theorem dX9_leads_184 : decode cX9_leads 184 = .ok (.getfield 374, 3) := by decide +kernel
theorem dX9_leads_187 : decode cX9_leads 187 = .ok (.ifCond .eq 7, 3) := by decide +kernel
theorem dX9_leads_190 : decode cX9_leads 190 = .ok (.iconst 0, 1) := by decide +kernel
theorem dX9_leads_191 : decode cX9_leads 191 = .ok (.goto 4, 3) := by decide +kernel
theorem dX9_leads_194 : decode cX9_leads 194 = .ok (.iconst 1, 1) := by decide +kernel
theorem dX9_leads_195 : decode cX9_leads 195 = .ok (.istore_n 3, 1) := by decide +kernel
theorem dX9_leads_196 : decode cX9_leads 196 = .ok (.aload_n 0, 1) := by decide +kernel
theorem dX9_leads_197 : decode cX9_leads 197 = .ok (.getfield 378, 3) := by decide +kernel
theorem dX9_leads_200 : decode cX9_leads 200 = .ok (.iconst 1, 1) := by decide +kernel
theorem dX9_leads_201 : decode cX9_leads 201 = .ok (.isub, 1) := by decide +kernel
theorem dX9_leads_202 : decode cX9_leads 202 = .ok (.istore 4, 2) := by decide +kernel
theorem dX9_leads_204 : decode cX9_leads 204 = .ok (.iload 4, 2) := by decide +kernel
theorem dX9_leads_206 : decode cX9_leads 206 = .ok (.ifCond .lt 56, 3) := by decide +kernel
theorem dX9_leads_209 : decode cX9_leads 209 = .ok (.aload_n 0, 1) := by decide +kernel
theorem dX9_leads_210 : decode cX9_leads 210 = .ok (.getfield 396, 3) := by decide +kernel
theorem dX9_leads_213 : decode cX9_leads 213 = .ok (.iconst 2, 1) := by decide +kernel
theorem dX9_leads_214 : decode cX9_leads 214 = .ok (.if_icmp .ne 23, 3) := by decide +kernel
theorem dX9_leads_217 : decode cX9_leads 217 = .ok (.aload_n 0, 1) := by decide +kernel
theorem dX9_leads_218 : decode cX9_leads 218 = .ok (.getfield 202, 3) := by decide +kernel
theorem dX9_leads_221 : decode cX9_leads 221 = .ok (.iload 4, 2) := by decide +kernel
theorem dX9_leads_223 : decode cX9_leads 223 = .ok (.baload, 1) := by decide +kernel
theorem dX9_leads_224 : decode cX9_leads 224 = .ok (.ifCond .eq 13, 3) := by decide +kernel
theorem dX9_leads_227 : decode cX9_leads 227 = .ok (.aload_n 0, 1) := by decide +kernel
theorem dX9_leads_228 : decode cX9_leads 228 = .ok (.aload_n 0, 1) := by decide +kernel
theorem dX9_leads_229 : decode cX9_leads 229 = .ok (.getfield 211, 3) := by decide +kernel
theorem dX9_leads_232 : decode cX9_leads 232 = .ok (.iload_n 3, 1) := by decide +kernel
theorem dX9_leads_233 : decode cX9_leads 233 = .ok (.iconst 1, 1) := by decide +kernel
theorem dX9_leads_234 : decode cX9_leads 234 = .ok (.invokevirtual 415, 3) := by decide +kernel
theorem dX9_leads_237 : decode cX9_leads 237 = .ok (.aload_n 0, 1) := by decide +kernel
theorem dX9_leads_238 : decode cX9_leads 238 = .ok (.aload_n 0, 1) := by decide +kernel
theorem dX9_leads_239 : decode cX9_leads 239 = .ok (.getfield 214, 3) := by decide +kernel
theorem dX9_leads_242 : decode cX9_leads 242 = .ok (.iload_n 3, 1) := by decide +kernel
theorem dX9_leads_243 : decode cX9_leads 243 = .ok (.aload_n 0, 1) := by decide +kernel
theorem dX9_leads_244 : decode cX9_leads 244 = .ok (.getfield 202, 3) := by decide +kernel
theorem dX9_leads_247 : decode cX9_leads 247 = .ok (.iload 4, 2) := by decide +kernel
theorem dX9_leads_249 : decode cX9_leads 249 = .ok (.baload, 1) := by decide +kernel
theorem dX9_leads_250 : decode cX9_leads 250 = .ok (.invokevirtual 415, 3) := by decide +kernel
theorem dX9_leads_253 : decode cX9_leads 253 = .ok (.iinc 3 1, 3) := by decide +kernel
theorem dX9_leads_256 : decode cX9_leads 256 = .ok (.iinc 4 (-1), 3) := by decide +kernel
theorem dX9_leads_259 : decode cX9_leads 259 = .ok (.goto (-55), 3) := by decide +kernel
theorem dX9_leads_262 : decode cX9_leads 262 = .ok (.aload_n 0, 1) := by decide +kernel
theorem dX9_leads_263 : decode cX9_leads 263 = .ok (.aload_n 0, 1) := by decide +kernel
theorem dX9_leads_264 : decode cX9_leads 264 = .ok (.getfield 214, 3) := by decide +kernel
theorem dX9_leads_267 : decode cX9_leads 267 = .ok (.iload_n 2, 1) := by decide +kernel
theorem dX9_leads_268 : decode cX9_leads 268 = .ok (.invokevirtual 419, 3) := by decide +kernel
theorem dX9_leads_271 : decode cX9_leads 271 = .ok (.ifCond .eq 27, 3) := by decide +kernel
theorem dX9_leads_274 : decode cX9_leads 274 = .ok (.aload_n 0, 1) := by decide +kernel
theorem dX9_leads_275 : decode cX9_leads 275 = .ok (.getfield 396, 3) := by decide +kernel
theorem dX9_leads_278 : decode cX9_leads 278 = .ok (.iconst 1, 1) := by decide +kernel
theorem dX9_leads_279 : decode cX9_leads 279 = .ok (.if_icmp .eq 15, 3) := by decide +kernel
theorem dX9_leads_282 : decode cX9_leads 282 = .ok (.aload_n 0, 1) := by decide +kernel
theorem dX9_leads_283 : decode cX9_leads 283 = .ok (.aload_n 0, 1) := by decide +kernel
theorem dX9_leads_284 : decode cX9_leads 284 = .ok (.getfield 211, 3) := by decide +kernel
theorem dX9_leads_287 : decode cX9_leads 287 = .ok (.iload_n 1, 1) := by decide +kernel
theorem dX9_leads_288 : decode cX9_leads 288 = .ok (.invokevirtual 419, 3) := by decide +kernel
theorem dX9_leads_291 : decode cX9_leads 291 = .ok (.ifCond .eq 7, 3) := by decide +kernel
theorem dX9_leads_294 : decode cX9_leads 294 = .ok (.iconst 1, 1) := by decide +kernel
theorem dX9_leads_295 : decode cX9_leads 295 = .ok (.goto 4, 3) := by decide +kernel
theorem dX9_leads_298 : decode cX9_leads 298 = .ok (.iconst 0, 1) := by decide +kernel
theorem dX9_leads_299 : decode cX9_leads 299 = .ok (.ireturn, 1) := by decide +kernel
theorem dX9_number_0 : decode cX9_number 0 = .ok (.lconst 0, 1) := by decide +kernel
theorem dX9_number_1 : decode cX9_number 1 = .ok (.lstore_n 2, 1) := by decide +kernel
theorem dX9_number_2 : decode cX9_number 2 = .ok (.iconst 0, 1) := by decide +kernel
theorem dX9_number_3 : decode cX9_number 3 = .ok (.istore 4, 2) := by decide +kernel
theorem dX9_number_5 : decode cX9_number 5 = .ok (.iload 4, 2) := by decide +kernel
theorem dX9_number_7 : decode cX9_number 7 = .ok (.iload_n 1, 1) := by decide +kernel
theorem dX9_number_8 : decode cX9_number 8 = .ok (.if_icmp .ge 35, 3) := by decide +kernel
theorem dX9_number_11 : decode cX9_number 11 = .ok (.lload_n 2, 1) := by decide +kernel
theorem dX9_number_12 : decode cX9_number 12 = .ok (.bipush 8, 2) := by decide +kernel
theorem dX9_number_14 : decode cX9_number 14 = .ok (.lshl, 1) := by decide +kernel
theorem dX9_number_15 : decode cX9_number 15 = .ok (.aload_n 0, 1) := by decide +kernel
theorem dX9_number_16 : decode cX9_number 16 = .ok (.getfield 66, 3) := by decide +kernel
theorem dX9_number_19 : decode cX9_number 19 = .ok (.aload_n 0, 1) := by decide +kernel
theorem dX9_number_20 : decode cX9_number 20 = .ok (.getfield 422, 3) := by decide +kernel
theorem dX9_number_23 : decode cX9_number 23 = .ok (.iaload, 1) := by decide +kernel
theorem dX9_number_24 : decode cX9_number 24 = .ok (.i2l, 1) := by decide +kernel
theorem dX9_number_25 : decode cX9_number 25 = .ok (.lor, 1) := by decide +kernel
theorem dX9_number_26 : decode cX9_number 26 = .ok (.lstore_n 2, 1) := by decide +kernel
theorem dX9_number_27 : decode cX9_number 27 = .ok (.aload_n 0, 1) := by decide +kernel
theorem dX9_number_28 : decode cX9_number 28 = .ok (.dup, 1) := by decide +kernel
theorem dX9_number_29 : decode cX9_number 29 = .ok (.getfield 422, 3) := by decide +kernel
theorem dX9_number_32 : decode cX9_number 32 = .ok (.iconst 1, 1) := by decide +kernel
theorem dX9_number_33 : decode cX9_number 33 = .ok (.iadd, 1) := by decide +kernel
theorem dX9_number_34 : decode cX9_number 34 = .ok (.putfield 422, 3) := by decide +kernel
theorem dX9_number_37 : decode cX9_number 37 = .ok (.iinc 4 1, 3) := by decide +kernel
theorem dX9_number_40 : decode cX9_number 40 = .ok (.goto (-35), 3) := by decide +kernel
theorem dX9_number_43 : decode cX9_number 43 = .ok (.lload_n 2, 1) := by decide +kernel
theorem dX9_number_44 : decode cX9_number 44 = .ok (.lreturn, 1) := by decide +kernel
theorem dX9_sizeOf_0 : decode cX9_sizeOf 0 = .ok (.aload_n 0, 1) := by decide +kernel
theorem dX9_sizeOf_1 : decode cX9_sizeOf 1 = .ok (.getfield 66, 3) := by decide +kernel
theorem dX9_sizeOf_4 : decode cX9_sizeOf 4 = .ok (.iload_n 1, 1) := by decide +kernel
theorem dX9_sizeOf_5 : decode cX9_sizeOf 5 = .ok (.iaload, 1) := by decide +kernel
theorem dX9_sizeOf_6 : decode cX9_sizeOf 6 = .ok (.tableswitch 92 1 7 #[42, 45, 78, 81, 83, 86, 89], 42) := by decide +kernel
theorem dX9_sizeOf_48 : decode cX9_sizeOf 48 = .ok (.bipush 9, 2) := by decide +kernel
theorem dX9_sizeOf_50 : decode cX9_sizeOf 50 = .ok (.ireturn, 1) := by decide +kernel
theorem dX9_sizeOf_51 : decode cX9_sizeOf 51 = .ok (.iload_n 1, 1) := by decide +kernel
theorem dX9_sizeOf_52 : decode cX9_sizeOf 52 = .ok (.bipush 9, 2) := by decide +kernel
theorem dX9_sizeOf_54 : decode cX9_sizeOf 54 = .ok (.iadd, 1) := by decide +kernel
theorem dX9_sizeOf_55 : decode cX9_sizeOf 55 = .ok (.aload_n 0, 1) := by decide +kernel
theorem dX9_sizeOf_56 : decode cX9_sizeOf 56 = .ok (.getfield 285, 3) := by decide +kernel
theorem dX9_sizeOf_59 : decode cX9_sizeOf 59 = .ok (.if_icmp .ge 21, 3) := by decide +kernel
theorem dX9_sizeOf_62 : decode cX9_sizeOf 62 = .ok (.bipush 10, 2) := by decide +kernel
theorem dX9_sizeOf_64 : decode cX9_sizeOf 64 = .ok (.bipush 9, 2) := by decide +kernel
theorem dX9_sizeOf_66 : decode cX9_sizeOf 66 = .ok (.aload_n 0, 1) := by decide +kernel
theorem dX9_sizeOf_67 : decode cX9_sizeOf 67 = .ok (.getfield 66, 3) := by decide +kernel
theorem dX9_sizeOf_70 : decode cX9_sizeOf 70 = .ok (.iload_n 1, 1) := by decide +kernel
theorem dX9_sizeOf_71 : decode cX9_sizeOf 71 = .ok (.bipush 9, 2) := by decide +kernel
theorem dX9_sizeOf_73 : decode cX9_sizeOf 73 = .ok (.iadd, 1) := by decide +kernel
theorem dX9_sizeOf_74 : decode cX9_sizeOf 74 = .ok (.iaload, 1) := by decide +kernel
theorem dX9_sizeOf_75 : decode cX9_sizeOf 75 = .ok (.imul, 1) := by decide +kernel
theorem dX9_sizeOf_76 : decode cX9_sizeOf 76 = .ok (.iadd, 1) := by decide +kernel
theorem dX9_sizeOf_77 : decode cX9_sizeOf 77 = .ok (.goto 6, 3) := by decide +kernel
theorem dX9_sizeOf_80 : decode cX9_sizeOf 80 = .ok (.sipush 17000, 3) := by decide +kernel
theorem dX9_sizeOf_83 : decode cX9_sizeOf 83 = .ok (.ireturn, 1) := by decide +kernel
theorem dX9_sizeOf_84 : decode cX9_sizeOf 84 = .ok (.bipush 18, 2) := by decide +kernel
theorem dX9_sizeOf_86 : decode cX9_sizeOf 86 = .ok (.ireturn, 1) := by decide +kernel
theorem dX9_sizeOf_87 : decode cX9_sizeOf 87 = .ok (.iconst 3, 1) := by decide +kernel
theorem dX9_sizeOf_88 : decode cX9_sizeOf 88 = .ok (.ireturn, 1) := by decide +kernel
theorem dX9_sizeOf_89 : decode cX9_sizeOf 89 = .ok (.bipush 20, 2) := by decide +kernel
theorem dX9_sizeOf_91 : decode cX9_sizeOf 91 = .ok (.ireturn, 1) := by decide +kernel
theorem dX9_sizeOf_92 : decode cX9_sizeOf 92 = .ok (.bipush 11, 2) := by decide +kernel
theorem dX9_sizeOf_94 : decode cX9_sizeOf 94 = .ok (.ireturn, 1) := by decide +kernel
theorem dX9_sizeOf_95 : decode cX9_sizeOf 95 = .ok (.bipush 18, 2) := by decide +kernel
theorem dX9_sizeOf_97 : decode cX9_sizeOf 97 = .ok (.ireturn, 1) := by decide +kernel
theorem dX9_sizeOf_98 : decode cX9_sizeOf 98 = .ok (.sipush 17000, 3) := by decide +kernel
theorem dX9_sizeOf_101 : decode cX9_sizeOf 101 = .ok (.ireturn, 1) := by decide +kernel
theorem dX9_reads_0 : decode cX9_reads 0 = .ok (.aload_n 0, 1) := by decide +kernel
theorem dX9_reads_1 : decode cX9_reads 1 = .ok (.getfield 66, 3) := by decide +kernel
theorem dX9_reads_4 : decode cX9_reads 4 = .ok (.aload_n 0, 1) := by decide +kernel
theorem dX9_reads_5 : decode cX9_reads 5 = .ok (.getfield 422, 3) := by decide +kernel
theorem dX9_reads_8 : decode cX9_reads 8 = .ok (.iaload, 1) := by decide +kernel
theorem dX9_reads_9 : decode cX9_reads 9 = .ok (.istore_n 1, 1) := by decide +kernel
theorem dX9_reads_10 : decode cX9_reads 10 = .ok (.aload_n 0, 1) := by decide +kernel
theorem dX9_reads_11 : decode cX9_reads 11 = .ok (.dup, 1) := by decide +kernel
theorem dX9_reads_12 : decode cX9_reads 12 = .ok (.getfield 422, 3) := by decide +kernel
theorem dX9_reads_15 : decode cX9_reads 15 = .ok (.iconst 1, 1) := by decide +kernel
theorem dX9_reads_16 : decode cX9_reads 16 = .ok (.iadd, 1) := by decide +kernel
theorem dX9_reads_17 : decode cX9_reads 17 = .ok (.putfield 422, 3) := by decide +kernel
theorem dX9_reads_20 : decode cX9_reads 20 = .ok (.iload_n 1, 1) := by decide +kernel
theorem dX9_reads_21 : decode cX9_reads 21 = .ok (.iconst 2, 1) := by decide +kernel
theorem dX9_reads_22 : decode cX9_reads 22 = .ok (.if_icmp .eq 19, 3) := by decide +kernel
theorem dX9_reads_25 : decode cX9_reads 25 = .ok (.iload_n 1, 1) := by decide +kernel
theorem dX9_reads_26 : decode cX9_reads 26 = .ok (.iconst 3, 1) := by decide +kernel
theorem dX9_reads_27 : decode cX9_reads 27 = .ok (.if_icmp .eq 14, 3) := by decide +kernel
theorem dX9_reads_30 : decode cX9_reads 30 = .ok (.iload_n 1, 1) := by decide +kernel
theorem dX9_reads_31 : decode cX9_reads 31 = .ok (.iconst 5, 1) := by decide +kernel
theorem dX9_reads_32 : decode cX9_reads 32 = .ok (.if_icmp .eq 9, 3) := by decide +kernel
theorem dX9_reads_35 : decode cX9_reads 35 = .ok (.iload_n 1, 1) := by decide +kernel
theorem dX9_reads_36 : decode cX9_reads 36 = .ok (.bipush 6, 2) := by decide +kernel
theorem dX9_reads_38 : decode cX9_reads 38 = .ok (.if_icmp .ne 7, 3) := by decide +kernel
theorem dX9_reads_41 : decode cX9_reads 41 = .ok (.iconst 1, 1) := by decide +kernel
theorem dX9_reads_42 : decode cX9_reads 42 = .ok (.goto 4, 3) := by decide +kernel
theorem dX9_reads_45 : decode cX9_reads 45 = .ok (.iconst 0, 1) := by decide +kernel
theorem dX9_reads_46 : decode cX9_reads 46 = .ok (.istore_n 2, 1) := by decide +kernel
theorem dX9_reads_47 : decode cX9_reads 47 = .ok (.iload_n 2, 1) := by decide +kernel
theorem dX9_reads_48 : decode cX9_reads 48 = .ok (.ifCond .eq 12, 3) := by decide +kernel
theorem dX9_reads_51 : decode cX9_reads 51 = .ok (.aload_n 0, 1) := by decide +kernel
theorem dX9_reads_52 : decode cX9_reads 52 = .ok (.bipush 8, 2) := by decide +kernel
theorem dX9_reads_54 : decode cX9_reads 54 = .ok (.invokevirtual 425, 3) := by decide +kernel
theorem dX9_reads_57 : decode cX9_reads 57 = .ok (.goto 4, 3) := by decide +kernel
theorem dX9_reads_60 : decode cX9_reads 60 = .ok (.lconst 0, 1) := by decide +kernel
theorem dX9_reads_61 : decode cX9_reads 61 = .ok (.lstore_n 3, 1) := by decide +kernel
theorem dX9_reads_62 : decode cX9_reads 62 = .ok (.iload_n 2, 1) := by decide +kernel
theorem dX9_reads_63 : decode cX9_reads 63 = .ok (.ifCond .eq 21, 3) := by decide +kernel
theorem dX9_reads_66 : decode cX9_reads 66 = .ok (.lload_n 3, 1) := by decide +kernel
theorem dX9_reads_67 : decode cX9_reads 67 = .ok (.lconst 0, 1) := by decide +kernel
theorem dX9_reads_68 : decode cX9_reads 68 = .ok (.lcmp, 1) := by decide +kernel
theorem dX9_reads_69 : decode cX9_reads 69 = .ok (.ifCond .eq 13, 3) := by decide +kernel
theorem dX9_reads_72 : decode cX9_reads 72 = .ok (.aload_n 0, 1) := by decide +kernel
theorem dX9_reads_73 : decode cX9_reads 73 = .ok (.iconst 1, 1) := by decide +kernel
theorem dX9_reads_74 : decode cX9_reads 74 = .ok (.lload_n 3, 1) := by decide +kernel
theorem dX9_reads_75 : decode cX9_reads 75 = .ok (.invokevirtual 288, 3) := by decide +kernel
theorem dX9_reads_78 : decode cX9_reads 78 = .ok (.iconst (-1), 1) := by decide +kernel
theorem dX9_reads_79 : decode cX9_reads 79 = .ok (.if_icmp .eq 5, 3) := by decide +kernel
theorem dX9_reads_82 : decode cX9_reads 82 = .ok (.iconst 0, 1) := by decide +kernel
theorem dX9_reads_83 : decode cX9_reads 83 = .ok (.ireturn, 1) := by decide +kernel
theorem dX9_reads_84 : decode cX9_reads 84 = .ok (.aload_n 0, 1) := by decide +kernel
theorem dX9_reads_85 : decode cX9_reads 85 = .ok (.iload_n 1, 1) := by decide +kernel
theorem dX9_reads_86 : decode cX9_reads 86 = .ok (.lload_n 3, 1) := by decide +kernel
theorem dX9_reads_87 : decode cX9_reads 87 = .ok (.invokevirtual 281, 3) := by decide +kernel
theorem dX9_reads_90 : decode cX9_reads 90 = .ok (.iload_n 1, 1) := by decide +kernel
theorem dX9_reads_91 : decode cX9_reads 91 = .ok (.iconst 5, 1) := by decide +kernel
theorem dX9_reads_92 : decode cX9_reads 92 = .ok (.if_icmp .eq 14, 3) := by decide +kernel
theorem dX9_reads_95 : decode cX9_reads 95 = .ok (.iload_n 1, 1) := by decide +kernel
theorem dX9_reads_96 : decode cX9_reads 96 = .ok (.iconst 4, 1) := by decide +kernel
theorem dX9_reads_97 : decode cX9_reads 97 = .ok (.if_icmp .eq 9, 3) := by decide +kernel
theorem dX9_reads_100 : decode cX9_reads 100 = .ok (.iload_n 1, 1) := by decide +kernel
theorem dX9_reads_101 : decode cX9_reads 101 = .ok (.bipush 6, 2) := by decide +kernel
theorem dX9_reads_103 : decode cX9_reads 103 = .ok (.if_icmp .ne 14, 3) := by decide +kernel
theorem dX9_reads_106 : decode cX9_reads 106 = .ok (.aload_n 0, 1) := by decide +kernel
theorem dX9_reads_107 : decode cX9_reads 107 = .ok (.aload_n 0, 1) := by decide +kernel
theorem dX9_reads_108 : decode cX9_reads 108 = .ok (.iconst 2, 1) := by decide +kernel
theorem dX9_reads_109 : decode cX9_reads 109 = .ok (.invokevirtual 425, 3) := by decide +kernel
theorem dX9_reads_112 : decode cX9_reads 112 = .ok (.l2i, 1) := by decide +kernel
theorem dX9_reads_113 : decode cX9_reads 113 = .ok (.i2s, 1) := by decide +kernel
theorem dX9_reads_114 : decode cX9_reads 114 = .ok (.putfield 228, 3) := by decide +kernel
theorem dX9_reads_117 : decode cX9_reads 117 = .ok (.iload_n 1, 1) := by decide +kernel
theorem dX9_reads_118 : decode cX9_reads 118 = .ok (.iconst 5, 1) := by decide +kernel
theorem dX9_reads_119 : decode cX9_reads 119 = .ok (.if_icmp .eq 14, 3) := by decide +kernel
theorem dX9_reads_122 : decode cX9_reads 122 = .ok (.iload_n 1, 1) := by decide +kernel
theorem dX9_reads_123 : decode cX9_reads 123 = .ok (.iconst 4, 1) := by decide +kernel
theorem dX9_reads_124 : decode cX9_reads 124 = .ok (.if_icmp .eq 9, 3) := by decide +kernel
theorem dX9_reads_127 : decode cX9_reads 127 = .ok (.iload_n 1, 1) := by decide +kernel
theorem dX9_reads_128 : decode cX9_reads 128 = .ok (.bipush 6, 2) := by decide +kernel
theorem dX9_reads_130 : decode cX9_reads 130 = .ok (.if_icmp .ne 19, 3) := by decide +kernel
theorem dX9_reads_133 : decode cX9_reads 133 = .ok (.aload_n 0, 1) := by decide +kernel
theorem dX9_reads_134 : decode cX9_reads 134 = .ok (.getfield 228, 3) := by decide +kernel
theorem dX9_reads_137 : decode cX9_reads 137 = .ok (.iconst 0, 1) := by decide +kernel
theorem dX9_reads_138 : decode cX9_reads 138 = .ok (.sipush 199, 3) := by decide +kernel
theorem dX9_reads_141 : decode cX9_reads 141 = .ok (.invokestatic 311, 3) := by decide +kernel
theorem dX9_reads_144 : decode cX9_reads 144 = .ok (.ifCond .ne 5, 3) := by decide +kernel
theorem dX9_reads_147 : decode cX9_reads 147 = .ok (.iconst 0, 1) := by decide +kernel
theorem dX9_reads_148 : decode cX9_reads 148 = .ok (.ireturn, 1) := by decide +kernel
theorem dX9_reads_149 : decode cX9_reads 149 = .ok (.iload_n 1, 1) := by decide +kernel
theorem dX9_reads_150 : decode cX9_reads 150 = .ok (.iconst 3, 1) := by decide +kernel
theorem dX9_reads_151 : decode cX9_reads 151 = .ok (.if_icmp .eq 8, 3) := by decide +kernel
theorem dX9_reads_154 : decode cX9_reads 154 = .ok (.iload_n 1, 1) := by decide +kernel
theorem dX9_reads_155 : decode cX9_reads 155 = .ok (.iconst 5, 1) := by decide +kernel
theorem dX9_reads_156 : decode cX9_reads 156 = .ok (.if_icmp .ne 13, 3) := by decide +kernel
theorem dX9_reads_159 : decode cX9_reads 159 = .ok (.aload_n 0, 1) := by decide +kernel
theorem dX9_reads_160 : decode cX9_reads 160 = .ok (.aload_n 0, 1) := by decide +kernel
theorem dX9_reads_161 : decode cX9_reads 161 = .ok (.iconst 1, 1) := by decide +kernel
theorem dX9_reads_162 : decode cX9_reads 162 = .ok (.invokevirtual 425, 3) := by decide +kernel
theorem dX9_reads_165 : decode cX9_reads 165 = .ok (.l2i, 1) := by decide +kernel
theorem dX9_reads_166 : decode cX9_reads 166 = .ok (.putfield 231, 3) := by decide +kernel
theorem dX9_reads_169 : decode cX9_reads 169 = .ok (.iload_n 1, 1) := by decide +kernel
theorem dX9_reads_170 : decode cX9_reads 170 = .ok (.iconst 3, 1) := by decide +kernel
theorem dX9_reads_171 : decode cX9_reads 171 = .ok (.if_icmp .eq 13, 3) := by decide +kernel
theorem dX9_reads_174 : decode cX9_reads 174 = .ok (.iload_n 1, 1) := by decide +kernel
theorem dX9_reads_175 : decode cX9_reads 175 = .ok (.iconst 5, 1) := by decide +kernel
theorem dX9_reads_176 : decode cX9_reads 176 = .ok (.if_icmp .eq 8, 3) := by decide +kernel
theorem dX9_reads_179 : decode cX9_reads 179 = .ok (.iload_n 1, 1) := by decide +kernel
theorem dX9_reads_180 : decode cX9_reads 180 = .ok (.iconst 1, 1) := by decide +kernel
theorem dX9_reads_181 : decode cX9_reads 181 = .ok (.if_icmp .ne 13, 3) := by decide +kernel
theorem dX9_reads_184 : decode cX9_reads 184 = .ok (.aload_n 0, 1) := by decide +kernel
theorem dX9_reads_185 : decode cX9_reads 185 = .ok (.aload_n 0, 1) := by decide +kernel
theorem dX9_reads_186 : decode cX9_reads 186 = .ok (.bipush 8, 2) := by decide +kernel
theorem dX9_reads_188 : decode cX9_reads 188 = .ok (.invokevirtual 425, 3) := by decide +kernel
theorem dX9_reads_191 : decode cX9_reads 191 = .ok (.putfield 234, 3) := by decide +kernel
theorem dX9_reads_194 : decode cX9_reads 194 = .ok (.iload_n 1, 1) := by decide +kernel
theorem dX9_reads_195 : decode cX9_reads 195 = .ok (.iconst 1, 1) := by decide +kernel
theorem dX9_reads_196 : decode cX9_reads 196 = .ok (.if_icmp .ne 29, 3) := by decide +kernel
theorem dX9_reads_199 : decode cX9_reads 199 = .ok (.aload_n 0, 1) := by decide +kernel
theorem dX9_reads_200 : decode cX9_reads 200 = .ok (.getfield 234, 3) := by decide +kernel
theorem dX9_reads_203 : decode cX9_reads 203 = .ok (.lconst 0, 1) := by decide +kernel
theorem dX9_reads_204 : decode cX9_reads 204 = .ok (.lcmp, 1) := by decide +kernel
theorem dX9_reads_205 : decode cX9_reads 205 = .ok (.ifCond .gt 18, 3) := by decide +kernel
theorem dX9_reads_208 : decode cX9_reads 208 = .ok (.aload_n 0, 1) := by decide +kernel
theorem dX9_reads_209 : decode cX9_reads 209 = .ok (.getfield 7, 3) := by decide +kernel
theorem dX9_reads_212 : decode cX9_reads 212 = .ok (.iconst 1, 1) := by decide +kernel
theorem dX9_reads_213 : decode cX9_reads 213 = .ok (.iaload, 1) := by decide +kernel
theorem dX9_reads_214 : decode cX9_reads 214 = .ok (.bipush 40, 2) := by decide +kernel
theorem dX9_reads_216 : decode cX9_reads 216 = .ok (.if_icmp .ge 7, 3) := by decide +kernel
theorem dX9_reads_219 : decode cX9_reads 219 = .ok (.iconst 1, 1) := by decide +kernel
theorem dX9_reads_220 : decode cX9_reads 220 = .ok (.goto 4, 3) := by decide +kernel
theorem dX9_reads_223 : decode cX9_reads 223 = .ok (.iconst 0, 1) := by decide +kernel
theorem dX9_reads_224 : decode cX9_reads 224 = .ok (.ireturn, 1) := by decide +kernel
theorem dX9_reads_225 : decode cX9_reads 225 = .ok (.iload_n 1, 1) := by decide +kernel
theorem dX9_reads_226 : decode cX9_reads 226 = .ok (.iconst 3, 1) := by decide +kernel
theorem dX9_reads_227 : decode cX9_reads 227 = .ok (.if_icmp .eq 8, 3) := by decide +kernel
theorem dX9_reads_230 : decode cX9_reads 230 = .ok (.iload_n 1, 1) := by decide +kernel
theorem dX9_reads_231 : decode cX9_reads 231 = .ok (.iconst 5, 1) := by decide +kernel
theorem dX9_reads_232 : decode cX9_reads 232 = .ok (.if_icmp .ne 18, 3) := by decide +kernel
theorem dX9_reads_235 : decode cX9_reads 235 = .ok (.aload_n 0, 1) := by decide +kernel
theorem dX9_reads_236 : decode cX9_reads 236 = .ok (.getfield 234, 3) := by decide +kernel
theorem dX9_reads_239 : decode cX9_reads 239 = .ok (.lconst 0, 1) := by decide +kernel
theorem dX9_reads_240 : decode cX9_reads 240 = .ok (.lcmp, 1) := by decide +kernel
theorem dX9_reads_241 : decode cX9_reads 241 = .ok (.ifCond .le 7, 3) := by decide +kernel
theorem dX9_reads_244 : decode cX9_reads 244 = .ok (.iconst 1, 1) := by decide +kernel
theorem dX9_reads_245 : decode cX9_reads 245 = .ok (.goto 4, 3) := by decide +kernel
theorem dX9_reads_248 : decode cX9_reads 248 = .ok (.iconst 0, 1) := by decide +kernel
theorem dX9_reads_249 : decode cX9_reads 249 = .ok (.ireturn, 1) := by decide +kernel
theorem dX9_reads_250 : decode cX9_reads 250 = .ok (.iload_n 1, 1) := by decide +kernel
theorem dX9_reads_251 : decode cX9_reads 251 = .ok (.iconst 2, 1) := by decide +kernel
theorem dX9_reads_252 : decode cX9_reads 252 = .ok (.if_icmp .ne 10, 3) := by decide +kernel
theorem dX9_reads_255 : decode cX9_reads 255 = .ok (.aload_n 0, 1) := by decide +kernel
theorem dX9_reads_256 : decode cX9_reads 256 = .ok (.invokevirtual 429, 3) := by decide +kernel
theorem dX9_reads_259 : decode cX9_reads 259 = .ok (.ifCond .eq 7, 3) := by decide +kernel
theorem dX9_reads_262 : decode cX9_reads 262 = .ok (.iconst 1, 1) := by decide +kernel
theorem dX9_reads_263 : decode cX9_reads 263 = .ok (.goto 4, 3) := by decide +kernel
theorem dX9_reads_266 : decode cX9_reads 266 = .ok (.iconst 0, 1) := by decide +kernel
theorem dX9_reads_267 : decode cX9_reads 267 = .ok (.ireturn, 1) := by decide +kernel
theorem dX9_readsLegs_0 : decode cX9_readsLegs 0 = .ok (.aload_n 0, 1) := by decide +kernel
theorem dX9_readsLegs_1 : decode cX9_readsLegs 1 = .ok (.iconst 1, 1) := by decide +kernel
theorem dX9_readsLegs_2 : decode cX9_readsLegs 2 = .ok (.invokevirtual 425, 3) := by decide +kernel
theorem dX9_readsLegs_5 : decode cX9_readsLegs 5 = .ok (.l2i, 1) := by decide +kernel
theorem dX9_readsLegs_6 : decode cX9_readsLegs 6 = .ok (.istore_n 1, 1) := by decide +kernel
theorem dX9_readsLegs_7 : decode cX9_readsLegs 7 = .ok (.iload_n 1, 1) := by decide +kernel
theorem dX9_readsLegs_8 : decode cX9_readsLegs 8 = .ok (.iconst 1, 1) := by decide +kernel
theorem dX9_readsLegs_9 : decode cX9_readsLegs 9 = .ok (.bipush 8, 2) := by decide +kernel
theorem dX9_readsLegs_11 : decode cX9_readsLegs 11 = .ok (.invokestatic 311, 3) := by decide +kernel
theorem dX9_readsLegs_14 : decode cX9_readsLegs 14 = .ok (.ifCond .ne 5, 3) := by decide +kernel
theorem dX9_readsLegs_17 : decode cX9_readsLegs 17 = .ok (.iconst 0, 1) := by decide +kernel
theorem dX9_readsLegs_18 : decode cX9_readsLegs 18 = .ok (.ireturn, 1) := by decide +kernel
theorem dX9_readsLegs_19 : decode cX9_readsLegs 19 = .ok (.iconst 1, 1) := by decide +kernel
theorem dX9_readsLegs_20 : decode cX9_readsLegs 20 = .ok (.istore_n 2, 1) := by decide +kernel
theorem dX9_readsLegs_21 : decode cX9_readsLegs 21 = .ok (.iconst 0, 1) := by decide +kernel
theorem dX9_readsLegs_22 : decode cX9_readsLegs 22 = .ok (.istore_n 3, 1) := by decide +kernel
theorem dX9_readsLegs_23 : decode cX9_readsLegs 23 = .ok (.iload_n 3, 1) := by decide +kernel
theorem dX9_readsLegs_24 : decode cX9_readsLegs 24 = .ok (.iload_n 1, 1) := by decide +kernel
theorem dX9_readsLegs_25 : decode cX9_readsLegs 25 = .ok (.if_icmp .ge 60, 3) := by decide +kernel
theorem dX9_readsLegs_28 : decode cX9_readsLegs 28 = .ok (.aload_n 0, 1) := by decide +kernel
theorem dX9_readsLegs_29 : decode cX9_readsLegs 29 = .ok (.iconst 1, 1) := by decide +kernel
theorem dX9_readsLegs_30 : decode cX9_readsLegs 30 = .ok (.invokevirtual 425, 3) := by decide +kernel
theorem dX9_readsLegs_33 : decode cX9_readsLegs 33 = .ok (.l2i, 1) := by decide +kernel
theorem dX9_readsLegs_34 : decode cX9_readsLegs 34 = .ok (.istore 4, 2) := by decide +kernel
theorem dX9_readsLegs_36 : decode cX9_readsLegs 36 = .ok (.aload_n 0, 1) := by decide +kernel
theorem dX9_readsLegs_37 : decode cX9_readsLegs 37 = .ok (.bipush 8, 2) := by decide +kernel
theorem dX9_readsLegs_39 : decode cX9_readsLegs 39 = .ok (.invokevirtual 425, 3) := by decide +kernel
theorem dX9_readsLegs_42 : decode cX9_readsLegs 42 = .ok (.lstore 5, 2) := by decide +kernel
theorem dX9_readsLegs_44 : decode cX9_readsLegs 44 = .ok (.iload_n 2, 1) := by decide +kernel
theorem dX9_readsLegs_45 : decode cX9_readsLegs 45 = .ok (.ifCond .eq 23, 3) := by decide +kernel
theorem dX9_readsLegs_48 : decode cX9_readsLegs 48 = .ok (.lload 5, 2) := by decide +kernel
theorem dX9_readsLegs_50 : decode cX9_readsLegs 50 = .ok (.lconst 0, 1) := by decide +kernel
theorem dX9_readsLegs_51 : decode cX9_readsLegs 51 = .ok (.lcmp, 1) := by decide +kernel
theorem dX9_readsLegs_52 : decode cX9_readsLegs 52 = .ok (.ifCond .eq 16, 3) := by decide +kernel
theorem dX9_readsLegs_55 : decode cX9_readsLegs 55 = .ok (.lload 5, 2) := by decide +kernel
theorem dX9_readsLegs_57 : decode cX9_readsLegs 57 = .ok (.ldc2_w 315, 3) := by decide +kernel
theorem dX9_readsLegs_60 : decode cX9_readsLegs 60 = .ok (.lcmp, 1) := by decide +kernel
theorem dX9_readsLegs_61 : decode cX9_readsLegs 61 = .ok (.ifCond .eq 7, 3) := by decide +kernel
theorem dX9_readsLegs_64 : decode cX9_readsLegs 64 = .ok (.iconst 1, 1) := by decide +kernel
theorem dX9_readsLegs_65 : decode cX9_readsLegs 65 = .ok (.goto 4, 3) := by decide +kernel
theorem dX9_readsLegs_68 : decode cX9_readsLegs 68 = .ok (.iconst 0, 1) := by decide +kernel
theorem dX9_readsLegs_69 : decode cX9_readsLegs 69 = .ok (.istore_n 2, 1) := by decide +kernel
theorem dX9_readsLegs_70 : decode cX9_readsLegs 70 = .ok (.aload_n 0, 1) := by decide +kernel
theorem dX9_readsLegs_71 : decode cX9_readsLegs 71 = .ok (.iload 4, 2) := by decide +kernel
theorem dX9_readsLegs_73 : decode cX9_readsLegs 73 = .ok (.lload 5, 2) := by decide +kernel
theorem dX9_readsLegs_75 : decode cX9_readsLegs 75 = .ok (.iload_n 3, 1) := by decide +kernel
theorem dX9_readsLegs_76 : decode cX9_readsLegs 76 = .ok (.invokevirtual 257, 3) := by decide +kernel
theorem dX9_readsLegs_79 : decode cX9_readsLegs 79 = .ok (.iinc 3 1, 3) := by decide +kernel
theorem dX9_readsLegs_82 : decode cX9_readsLegs 82 = .ok (.goto (-59), 3) := by decide +kernel
theorem dX9_readsLegs_85 : decode cX9_readsLegs 85 = .ok (.iload_n 2, 1) := by decide +kernel
theorem dX9_readsLegs_86 : decode cX9_readsLegs 86 = .ok (.ireturn, 1) := by decide +kernel
theorem dX9_isTrial_0 : decode cX9_isTrial 0 = .ok (.aload_n 0, 1) := by decide +kernel
theorem dX9_isTrial_1 : decode cX9_isTrial 1 = .ok (.iconst 1, 1) := by decide +kernel
theorem dX9_isTrial_2 : decode cX9_isTrial 2 = .ok (.invokevirtual 305, 3) := by decide +kernel
theorem dX9_isTrial_5 : decode cX9_isTrial 5 = .ok (.aload_n 0, 1) := by decide +kernel
theorem dX9_isTrial_6 : decode cX9_isTrial 6 = .ok (.getfield 66, 3) := by decide +kernel
theorem dX9_isTrial_9 : decode cX9_isTrial 9 = .ok (.aload_n 0, 1) := by decide +kernel
theorem dX9_isTrial_10 : decode cX9_isTrial 10 = .ok (.getfield 422, 3) := by decide +kernel
theorem dX9_isTrial_13 : decode cX9_isTrial 13 = .ok (.iaload, 1) := by decide +kernel
theorem dX9_isTrial_14 : decode cX9_isTrial 14 = .ok (.bipush 7, 2) := by decide +kernel
theorem dX9_isTrial_16 : decode cX9_isTrial 16 = .ok (.if_icmp .ne 7, 3) := by decide +kernel
theorem dX9_isTrial_19 : decode cX9_isTrial 19 = .ok (.iconst 1, 1) := by decide +kernel
theorem dX9_isTrial_20 : decode cX9_isTrial 20 = .ok (.goto 4, 3) := by decide +kernel
theorem dX9_isTrial_23 : decode cX9_isTrial 23 = .ok (.iconst 0, 1) := by decide +kernel
theorem dX9_isTrial_24 : decode cX9_isTrial 24 = .ok (.istore_n 1, 1) := by decide +kernel
theorem dX9_isTrial_25 : decode cX9_isTrial 25 = .ok (.iconst 0, 1) := by decide +kernel
theorem dX9_isTrial_26 : decode cX9_isTrial 26 = .ok (.istore_n 2, 1) := by decide +kernel
theorem dX9_isTrial_27 : decode cX9_isTrial 27 = .ok (.iload_n 2, 1) := by decide +kernel
theorem dX9_isTrial_28 : decode cX9_isTrial 28 = .ok (.aload_n 0, 1) := by decide +kernel
theorem dX9_isTrial_29 : decode cX9_isTrial 29 = .ok (.getfield 237, 3) := by decide +kernel
theorem dX9_isTrial_32 : decode cX9_isTrial 32 = .ok (.if_icmp .ge 39, 3) := by decide +kernel
theorem dX9_isTrial_35 : decode cX9_isTrial 35 = .ok (.iload_n 1, 1) := by decide +kernel
theorem dX9_isTrial_36 : decode cX9_isTrial 36 = .ok (.ifCond .eq 35, 3) := by decide +kernel
theorem dX9_isTrial_39 : decode cX9_isTrial 39 = .ok (.aload_n 0, 1) := by decide +kernel
theorem dX9_isTrial_40 : decode cX9_isTrial 40 = .ok (.getfield 66, 3) := by decide +kernel
theorem dX9_isTrial_43 : decode cX9_isTrial 43 = .ok (.aload_n 0, 1) := by decide +kernel
theorem dX9_isTrial_44 : decode cX9_isTrial 44 = .ok (.getfield 422, 3) := by decide +kernel
theorem dX9_isTrial_47 : decode cX9_isTrial 47 = .ok (.iload_n 2, 1) := by decide +kernel
theorem dX9_isTrial_48 : decode cX9_isTrial 48 = .ok (.iadd, 1) := by decide +kernel
theorem dX9_isTrial_49 : decode cX9_isTrial 49 = .ok (.iaload, 1) := by decide +kernel
theorem dX9_isTrial_50 : decode cX9_isTrial 50 = .ok (.aload_n 0, 1) := by decide +kernel
theorem dX9_isTrial_51 : decode cX9_isTrial 51 = .ok (.getfield 90, 3) := by decide +kernel
theorem dX9_isTrial_54 : decode cX9_isTrial 54 = .ok (.iload_n 2, 1) := by decide +kernel
theorem dX9_isTrial_55 : decode cX9_isTrial 55 = .ok (.iaload, 1) := by decide +kernel
theorem dX9_isTrial_56 : decode cX9_isTrial 56 = .ok (.if_icmp .ne 7, 3) := by decide +kernel
theorem dX9_isTrial_59 : decode cX9_isTrial 59 = .ok (.iconst 1, 1) := by decide +kernel
theorem dX9_isTrial_60 : decode cX9_isTrial 60 = .ok (.goto 4, 3) := by decide +kernel
theorem dX9_isTrial_63 : decode cX9_isTrial 63 = .ok (.iconst 0, 1) := by decide +kernel
theorem dX9_isTrial_64 : decode cX9_isTrial 64 = .ok (.istore_n 1, 1) := by decide +kernel
theorem dX9_isTrial_65 : decode cX9_isTrial 65 = .ok (.iinc 2 1, 3) := by decide +kernel
theorem dX9_isTrial_68 : decode cX9_isTrial 68 = .ok (.goto (-41), 3) := by decide +kernel
theorem dX9_isTrial_71 : decode cX9_isTrial 71 = .ok (.aload_n 0, 1) := by decide +kernel
theorem dX9_isTrial_72 : decode cX9_isTrial 72 = .ok (.dup, 1) := by decide +kernel
theorem dX9_isTrial_73 : decode cX9_isTrial 73 = .ok (.getfield 422, 3) := by decide +kernel
theorem dX9_isTrial_76 : decode cX9_isTrial 76 = .ok (.aload_n 0, 1) := by decide +kernel
theorem dX9_isTrial_77 : decode cX9_isTrial 77 = .ok (.getfield 237, 3) := by decide +kernel
theorem dX9_isTrial_80 : decode cX9_isTrial 80 = .ok (.iadd, 1) := by decide +kernel
theorem dX9_isTrial_81 : decode cX9_isTrial 81 = .ok (.putfield 422, 3) := by decide +kernel
theorem dX9_isTrial_84 : decode cX9_isTrial 84 = .ok (.iload_n 1, 1) := by decide +kernel
theorem dX9_isTrial_85 : decode cX9_isTrial 85 = .ok (.ireturn, 1) := by decide +kernel
theorem dX9_tells_0 : decode cX9_tells 0 = .ok (.iload_n 1, 1) := by decide +kernel
theorem dX9_tells_1 : decode cX9_tells 1 = .ok (.istore_n 2, 1) := by decide +kernel
theorem dX9_tells_2 : decode cX9_tells 2 = .ok (.iload_n 2, 1) := by decide +kernel
theorem dX9_tells_3 : decode cX9_tells 3 = .ok (.aload_n 0, 1) := by decide +kernel
theorem dX9_tells_4 : decode cX9_tells 4 = .ok (.getfield 324, 3) := by decide +kernel
theorem dX9_tells_7 : decode cX9_tells 7 = .ok (.if_icmp .ge 52, 3) := by decide +kernel
theorem dX9_tells_10 : decode cX9_tells 10 = .ok (.aload_n 0, 1) := by decide +kernel
theorem dX9_tells_11 : decode cX9_tells 11 = .ok (.getfield 78, 3) := by decide +kernel
theorem dX9_tells_14 : decode cX9_tells 14 = .ok (.iload_n 2, 1) := by decide +kernel
theorem dX9_tells_15 : decode cX9_tells 15 = .ok (.iaload, 1) := by decide +kernel
theorem dX9_tells_16 : decode cX9_tells 16 = .ok (.aload_n 0, 1) := by decide +kernel
theorem dX9_tells_17 : decode cX9_tells 17 = .ok (.getfield 13, 3) := by decide +kernel
theorem dX9_tells_20 : decode cX9_tells 20 = .ok (.iconst 1, 1) := by decide +kernel
theorem dX9_tells_21 : decode cX9_tells 21 = .ok (.iaload, 1) := by decide +kernel
theorem dX9_tells_22 : decode cX9_tells 22 = .ok (.if_icmp .gt 37, 3) := by decide +kernel
theorem dX9_tells_25 : decode cX9_tells 25 = .ok (.aload_n 0, 1) := by decide +kernel
theorem dX9_tells_26 : decode cX9_tells 26 = .ok (.getfield 22, 3) := by decide +kernel
theorem dX9_tells_29 : decode cX9_tells 29 = .ok (.iconst 1, 1) := by decide +kernel
theorem dX9_tells_30 : decode cX9_tells 30 = .ok (.baload, 1) := by decide +kernel
theorem dX9_tells_31 : decode cX9_tells 31 = .ok (.ifCond .ne 28, 3) := by decide +kernel
theorem dX9_tells_34 : decode cX9_tells 34 = .ok (.aload_n 0, 1) := by decide +kernel
theorem dX9_tells_35 : decode cX9_tells 35 = .ok (.getfield 16, 3) := by decide +kernel
theorem dX9_tells_38 : decode cX9_tells 38 = .ok (.iconst 1, 1) := by decide +kernel
theorem dX9_tells_39 : decode cX9_tells 39 = .ok (.aload_n 0, 1) := by decide +kernel
theorem dX9_tells_40 : decode cX9_tells 40 = .ok (.getfield 81, 3) := by decide +kernel
theorem dX9_tells_43 : decode cX9_tells 43 = .ok (.iload_n 2, 1) := by decide +kernel
theorem dX9_tells_44 : decode cX9_tells 44 = .ok (.iaload, 1) := by decide +kernel
theorem dX9_tells_45 : decode cX9_tells 45 = .ok (.iastore, 1) := by decide +kernel
theorem dX9_tells_46 : decode cX9_tells 46 = .ok (.aload_n 0, 1) := by decide +kernel
theorem dX9_tells_47 : decode cX9_tells 47 = .ok (.getfield 19, 3) := by decide +kernel
theorem dX9_tells_50 : decode cX9_tells 50 = .ok (.iconst 1, 1) := by decide +kernel
theorem dX9_tells_51 : decode cX9_tells 51 = .ok (.iconst 0, 1) := by decide +kernel
theorem dX9_tells_52 : decode cX9_tells 52 = .ok (.iastore, 1) := by decide +kernel
theorem dX9_tells_53 : decode cX9_tells 53 = .ok (.iinc 2 1, 3) := by decide +kernel
theorem dX9_tells_56 : decode cX9_tells 56 = .ok (.goto (-54), 3) := by decide +kernel
theorem dX9_tells_59 : decode cX9_tells 59 = .ok (.iload_n 2, 1) := by decide +kernel
theorem dX9_tells_60 : decode cX9_tells 60 = .ok (.ireturn, 1) := by decide +kernel
