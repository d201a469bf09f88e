/-! The law's body: printed by wip/gen/law.py. My own. -/
theorem dw_0 : decode code 0 = .ok (.new 8, 3) := by decide +kernel
theorem dw_3 : decode code 3 = .ok (.dup, 1) := by decide +kernel
theorem dw_4 : decode code 4 = .ok (.invokespecial 90, 3) := by decide +kernel
theorem dw_7 : decode code 7 = .ok (.astore_n 1, 1) := by decide +kernel
theorem dw_8 : decode code 8 = .ok (.new 91, 3) := by decide +kernel
theorem dw_11 : decode code 11 = .ok (.dup, 1) := by decide +kernel
theorem dw_12 : decode code 12 = .ok (.invokespecial 93, 3) := by decide +kernel
theorem dw_15 : decode code 15 = .ok (.astore_n 2, 1) := by decide +kernel
theorem dw_16 : decode code 16 = .ok (.iconst 1, 1) := by decide +kernel
theorem dw_17 : decode code 17 = .ok (.newarray .long, 2) := by decide +kernel
theorem dw_19 : decode code 19 = .ok (.astore_n 3, 1) := by decide +kernel
theorem dw_20 : decode code 20 = .ok (.iconst 0, 1) := by decide +kernel
theorem dw_21 : decode code 21 = .ok (.istore 4, 2) := by decide +kernel
theorem dw_23 : decode code 23 = .ok (.iload 4, 2) := by decide +kernel
theorem dw_25 : decode code 25 = .ok (.aload_n 0, 1) := by decide +kernel
theorem dw_26 : decode code 26 = .ok (.arraylength, 1) := by decide +kernel
theorem dw_27 : decode code 27 = .ok (.bipush 6, 2) := by decide +kernel
theorem dw_29 : decode code 29 = .ok (.isub, 1) := by decide +kernel
theorem dw_30 : decode code 30 = .ok (.if_icmp .gt 1652, 3) := by decide +kernel
theorem dw_33 : decode code 33 = .ok (.aload_n 0, 1) := by decide +kernel
theorem dw_34 : decode code 34 = .ok (.iload 4, 2) := by decide +kernel
theorem dw_36 : decode code 36 = .ok (.iaload, 1) := by decide +kernel
theorem dw_37 : decode code 37 = .ok (.bipush 31, 2) := by decide +kernel
theorem dw_39 : decode code 39 = .ok (.iand, 1) := by decide +kernel
theorem dw_40 : decode code 40 = .ok (.tableswitch 1636 0 23 #[112, 160, 224, 296, 368, 456, 544, 616, 688, 736, 811, 886, 942, 998, 1054, 1110, 1123, 1179, 1235, 1303, 1359, 1439, 1519, 1623], 112) := by decide +kernel
theorem dw_152 : decode code 152 = .ok (.aload_n 1, 1) := by decide +kernel
theorem dw_153 : decode code 153 = .ok (.aload_n 0, 1) := by decide +kernel
theorem dw_154 : decode code 154 = .ok (.iload 4, 2) := by decide +kernel
theorem dw_156 : decode code 156 = .ok (.iconst 1, 1) := by decide +kernel
theorem dw_157 : decode code 157 = .ok (.iadd, 1) := by decide +kernel
theorem dw_158 : decode code 158 = .ok (.iaload, 1) := by decide +kernel
theorem dw_159 : decode code 159 = .ok (.aload_n 0, 1) := by decide +kernel
theorem dw_160 : decode code 160 = .ok (.iload 4, 2) := by decide +kernel
theorem dw_162 : decode code 162 = .ok (.iconst 2, 1) := by decide +kernel
theorem dw_163 : decode code 163 = .ok (.iadd, 1) := by decide +kernel
theorem dw_164 : decode code 164 = .ok (.iaload, 1) := by decide +kernel
theorem dw_165 : decode code 165 = .ok (.invokestatic 94, 3) := by decide +kernel
theorem dw_168 : decode code 168 = .ok (.istore 5, 2) := by decide +kernel
theorem dw_170 : decode code 170 = .ok (.aload_n 2, 1) := by decide +kernel
theorem dw_171 : decode code 171 = .ok (.aload_n 0, 1) := by decide +kernel
theorem dw_172 : decode code 172 = .ok (.iload 4, 2) := by decide +kernel
theorem dw_174 : decode code 174 = .ok (.iconst 1, 1) := by decide +kernel
theorem dw_175 : decode code 175 = .ok (.iadd, 1) := by decide +kernel
theorem dw_176 : decode code 176 = .ok (.iaload, 1) := by decide +kernel
theorem dw_177 : decode code 177 = .ok (.aload_n 0, 1) := by decide +kernel
theorem dw_178 : decode code 178 = .ok (.iload 4, 2) := by decide +kernel
theorem dw_180 : decode code 180 = .ok (.iconst 2, 1) := by decide +kernel
theorem dw_181 : decode code 181 = .ok (.iadd, 1) := by decide +kernel
theorem dw_182 : decode code 182 = .ok (.iaload, 1) := by decide +kernel
theorem dw_183 : decode code 183 = .ok (.invokevirtual 99, 3) := by decide +kernel
theorem dw_186 : decode code 186 = .ok (.aload_n 2, 1) := by decide +kernel
theorem dw_187 : decode code 187 = .ok (.invokevirtual 100, 3) := by decide +kernel
theorem dw_190 : decode code 190 = .ok (.iload 5, 2) := by decide +kernel
theorem dw_192 : decode code 192 = .ok (.if_icmp .eq 5, 3) := by decide +kernel
theorem dw_195 : decode code 195 = .ok (.iconst 0, 1) := by decide +kernel
theorem dw_196 : decode code 196 = .ok (.ireturn, 1) := by decide +kernel
theorem dw_197 : decode code 197 = .ok (.goto 1479, 3) := by decide +kernel
theorem dw_200 : decode code 200 = .ok (.aload_n 1, 1) := by decide +kernel
theorem dw_201 : decode code 201 = .ok (.aload_n 0, 1) := by decide +kernel
theorem dw_202 : decode code 202 = .ok (.iload 4, 2) := by decide +kernel
theorem dw_204 : decode code 204 = .ok (.iconst 1, 1) := by decide +kernel
theorem dw_205 : decode code 205 = .ok (.iadd, 1) := by decide +kernel
theorem dw_206 : decode code 206 = .ok (.iaload, 1) := by decide +kernel
theorem dw_207 : decode code 207 = .ok (.aload_n 0, 1) := by decide +kernel
theorem dw_208 : decode code 208 = .ok (.iload 4, 2) := by decide +kernel
theorem dw_210 : decode code 210 = .ok (.iconst 2, 1) := by decide +kernel
theorem dw_211 : decode code 211 = .ok (.iadd, 1) := by decide +kernel
theorem dw_212 : decode code 212 = .ok (.iaload, 1) := by decide +kernel
theorem dw_213 : decode code 213 = .ok (.ifCond .eq 7, 3) := by decide +kernel
theorem dw_216 : decode code 216 = .ok (.iconst 1, 1) := by decide +kernel
theorem dw_217 : decode code 217 = .ok (.goto 4, 3) := by decide +kernel
theorem dw_220 : decode code 220 = .ok (.iconst 0, 1) := by decide +kernel
theorem dw_221 : decode code 221 = .ok (.invokestatic 104, 3) := by decide +kernel
theorem dw_224 : decode code 224 = .ok (.istore 5, 2) := by decide +kernel
theorem dw_226 : decode code 226 = .ok (.aload_n 2, 1) := by decide +kernel
theorem dw_227 : decode code 227 = .ok (.aload_n 0, 1) := by decide +kernel
theorem dw_228 : decode code 228 = .ok (.iload 4, 2) := by decide +kernel
theorem dw_230 : decode code 230 = .ok (.iconst 1, 1) := by decide +kernel
theorem dw_231 : decode code 231 = .ok (.iadd, 1) := by decide +kernel
theorem dw_232 : decode code 232 = .ok (.iaload, 1) := by decide +kernel
theorem dw_233 : decode code 233 = .ok (.aload_n 0, 1) := by decide +kernel
theorem dw_234 : decode code 234 = .ok (.iload 4, 2) := by decide +kernel
theorem dw_236 : decode code 236 = .ok (.iconst 2, 1) := by decide +kernel
theorem dw_237 : decode code 237 = .ok (.iadd, 1) := by decide +kernel
theorem dw_238 : decode code 238 = .ok (.iaload, 1) := by decide +kernel
theorem dw_239 : decode code 239 = .ok (.ifCond .eq 7, 3) := by decide +kernel
theorem dw_242 : decode code 242 = .ok (.iconst 1, 1) := by decide +kernel
theorem dw_243 : decode code 243 = .ok (.goto 4, 3) := by decide +kernel
theorem dw_246 : decode code 246 = .ok (.iconst 0, 1) := by decide +kernel
theorem dw_247 : decode code 247 = .ok (.invokevirtual 107, 3) := by decide +kernel
theorem dw_250 : decode code 250 = .ok (.aload_n 2, 1) := by decide +kernel
theorem dw_251 : decode code 251 = .ok (.invokevirtual 100, 3) := by decide +kernel
theorem dw_254 : decode code 254 = .ok (.iload 5, 2) := by decide +kernel
theorem dw_256 : decode code 256 = .ok (.if_icmp .eq 5, 3) := by decide +kernel
theorem dw_259 : decode code 259 = .ok (.iconst 0, 1) := by decide +kernel
theorem dw_260 : decode code 260 = .ok (.ireturn, 1) := by decide +kernel
theorem dw_261 : decode code 261 = .ok (.goto 1415, 3) := by decide +kernel
theorem dw_264 : decode code 264 = .ok (.aload_n 1, 1) := by decide +kernel
theorem dw_265 : decode code 265 = .ok (.aload_n 0, 1) := by decide +kernel
theorem dw_266 : decode code 266 = .ok (.iload 4, 2) := by decide +kernel
theorem dw_268 : decode code 268 = .ok (.iconst 1, 1) := by decide +kernel
theorem dw_269 : decode code 269 = .ok (.iadd, 1) := by decide +kernel
theorem dw_270 : decode code 270 = .ok (.iaload, 1) := by decide +kernel
theorem dw_271 : decode code 271 = .ok (.aload_n 0, 1) := by decide +kernel
theorem dw_272 : decode code 272 = .ok (.iload 4, 2) := by decide +kernel
theorem dw_274 : decode code 274 = .ok (.iconst 2, 1) := by decide +kernel
theorem dw_275 : decode code 275 = .ok (.iadd, 1) := by decide +kernel
theorem dw_276 : decode code 276 = .ok (.iaload, 1) := by decide +kernel
theorem dw_277 : decode code 277 = .ok (.aload_n 0, 1) := by decide +kernel
theorem dw_278 : decode code 278 = .ok (.iload 4, 2) := by decide +kernel
theorem dw_280 : decode code 280 = .ok (.iconst 3, 1) := by decide +kernel
theorem dw_281 : decode code 281 = .ok (.iadd, 1) := by decide +kernel
theorem dw_282 : decode code 282 = .ok (.iaload, 1) := by decide +kernel
theorem dw_283 : decode code 283 = .ok (.aload_n 0, 1) := by decide +kernel
theorem dw_284 : decode code 284 = .ok (.iload 4, 2) := by decide +kernel
theorem dw_286 : decode code 286 = .ok (.iconst 4, 1) := by decide +kernel
theorem dw_287 : decode code 287 = .ok (.iadd, 1) := by decide +kernel
theorem dw_288 : decode code 288 = .ok (.iaload, 1) := by decide +kernel
theorem dw_289 : decode code 289 = .ok (.invokestatic 108, 3) := by decide +kernel
theorem dw_292 : decode code 292 = .ok (.istore 5, 2) := by decide +kernel
theorem dw_294 : decode code 294 = .ok (.aload_n 2, 1) := by decide +kernel
theorem dw_295 : decode code 295 = .ok (.aload_n 0, 1) := by decide +kernel
theorem dw_296 : decode code 296 = .ok (.iload 4, 2) := by decide +kernel
theorem dw_298 : decode code 298 = .ok (.iconst 1, 1) := by decide +kernel
theorem dw_299 : decode code 299 = .ok (.iadd, 1) := by decide +kernel
theorem dw_300 : decode code 300 = .ok (.iaload, 1) := by decide +kernel
theorem dw_301 : decode code 301 = .ok (.aload_n 0, 1) := by decide +kernel
theorem dw_302 : decode code 302 = .ok (.iload 4, 2) := by decide +kernel
theorem dw_304 : decode code 304 = .ok (.iconst 2, 1) := by decide +kernel
theorem dw_305 : decode code 305 = .ok (.iadd, 1) := by decide +kernel
theorem dw_306 : decode code 306 = .ok (.iaload, 1) := by decide +kernel
theorem dw_307 : decode code 307 = .ok (.aload_n 0, 1) := by decide +kernel
theorem dw_308 : decode code 308 = .ok (.iload 4, 2) := by decide +kernel
theorem dw_310 : decode code 310 = .ok (.iconst 3, 1) := by decide +kernel
theorem dw_311 : decode code 311 = .ok (.iadd, 1) := by decide +kernel
theorem dw_312 : decode code 312 = .ok (.iaload, 1) := by decide +kernel
theorem dw_313 : decode code 313 = .ok (.aload_n 0, 1) := by decide +kernel
theorem dw_314 : decode code 314 = .ok (.iload 4, 2) := by decide +kernel
theorem dw_316 : decode code 316 = .ok (.iconst 4, 1) := by decide +kernel
theorem dw_317 : decode code 317 = .ok (.iadd, 1) := by decide +kernel
theorem dw_318 : decode code 318 = .ok (.iaload, 1) := by decide +kernel
theorem dw_319 : decode code 319 = .ok (.invokevirtual 111, 3) := by decide +kernel
theorem dw_322 : decode code 322 = .ok (.aload_n 2, 1) := by decide +kernel
theorem dw_323 : decode code 323 = .ok (.invokevirtual 100, 3) := by decide +kernel
theorem dw_326 : decode code 326 = .ok (.iload 5, 2) := by decide +kernel
theorem dw_328 : decode code 328 = .ok (.if_icmp .eq 5, 3) := by decide +kernel
theorem dw_331 : decode code 331 = .ok (.iconst 0, 1) := by decide +kernel
theorem dw_332 : decode code 332 = .ok (.ireturn, 1) := by decide +kernel
theorem dw_333 : decode code 333 = .ok (.goto 1343, 3) := by decide +kernel
theorem dw_336 : decode code 336 = .ok (.aload_n 1, 1) := by decide +kernel
theorem dw_337 : decode code 337 = .ok (.aload_n 0, 1) := by decide +kernel
theorem dw_338 : decode code 338 = .ok (.iload 4, 2) := by decide +kernel
theorem dw_340 : decode code 340 = .ok (.iconst 1, 1) := by decide +kernel
theorem dw_341 : decode code 341 = .ok (.iadd, 1) := by decide +kernel
theorem dw_342 : decode code 342 = .ok (.iaload, 1) := by decide +kernel
theorem dw_343 : decode code 343 = .ok (.aload_n 0, 1) := by decide +kernel
theorem dw_344 : decode code 344 = .ok (.iload 4, 2) := by decide +kernel
theorem dw_346 : decode code 346 = .ok (.iconst 2, 1) := by decide +kernel
theorem dw_347 : decode code 347 = .ok (.iadd, 1) := by decide +kernel
theorem dw_348 : decode code 348 = .ok (.iaload, 1) := by decide +kernel
theorem dw_349 : decode code 349 = .ok (.aload_n 0, 1) := by decide +kernel
theorem dw_350 : decode code 350 = .ok (.iload 4, 2) := by decide +kernel
theorem dw_352 : decode code 352 = .ok (.iconst 3, 1) := by decide +kernel
theorem dw_353 : decode code 353 = .ok (.iadd, 1) := by decide +kernel
theorem dw_354 : decode code 354 = .ok (.iaload, 1) := by decide +kernel
theorem dw_355 : decode code 355 = .ok (.aload_n 0, 1) := by decide +kernel
theorem dw_356 : decode code 356 = .ok (.iload 4, 2) := by decide +kernel
theorem dw_358 : decode code 358 = .ok (.iconst 4, 1) := by decide +kernel
theorem dw_359 : decode code 359 = .ok (.iadd, 1) := by decide +kernel
theorem dw_360 : decode code 360 = .ok (.iaload, 1) := by decide +kernel
theorem dw_361 : decode code 361 = .ok (.invokestatic 112, 3) := by decide +kernel
theorem dw_364 : decode code 364 = .ok (.istore 5, 2) := by decide +kernel
theorem dw_366 : decode code 366 = .ok (.aload_n 2, 1) := by decide +kernel
theorem dw_367 : decode code 367 = .ok (.aload_n 0, 1) := by decide +kernel
theorem dw_368 : decode code 368 = .ok (.iload 4, 2) := by decide +kernel
theorem dw_370 : decode code 370 = .ok (.iconst 1, 1) := by decide +kernel
theorem dw_371 : decode code 371 = .ok (.iadd, 1) := by decide +kernel
theorem dw_372 : decode code 372 = .ok (.iaload, 1) := by decide +kernel
theorem dw_373 : decode code 373 = .ok (.aload_n 0, 1) := by decide +kernel
theorem dw_374 : decode code 374 = .ok (.iload 4, 2) := by decide +kernel
theorem dw_376 : decode code 376 = .ok (.iconst 2, 1) := by decide +kernel
theorem dw_377 : decode code 377 = .ok (.iadd, 1) := by decide +kernel
theorem dw_378 : decode code 378 = .ok (.iaload, 1) := by decide +kernel
theorem dw_379 : decode code 379 = .ok (.aload_n 0, 1) := by decide +kernel
theorem dw_380 : decode code 380 = .ok (.iload 4, 2) := by decide +kernel
theorem dw_382 : decode code 382 = .ok (.iconst 3, 1) := by decide +kernel
theorem dw_383 : decode code 383 = .ok (.iadd, 1) := by decide +kernel
theorem dw_384 : decode code 384 = .ok (.iaload, 1) := by decide +kernel
theorem dw_385 : decode code 385 = .ok (.aload_n 0, 1) := by decide +kernel
theorem dw_386 : decode code 386 = .ok (.iload 4, 2) := by decide +kernel
theorem dw_388 : decode code 388 = .ok (.iconst 4, 1) := by decide +kernel
theorem dw_389 : decode code 389 = .ok (.iadd, 1) := by decide +kernel
theorem dw_390 : decode code 390 = .ok (.iaload, 1) := by decide +kernel
theorem dw_391 : decode code 391 = .ok (.invokevirtual 114, 3) := by decide +kernel
theorem dw_394 : decode code 394 = .ok (.aload_n 2, 1) := by decide +kernel
theorem dw_395 : decode code 395 = .ok (.invokevirtual 100, 3) := by decide +kernel
theorem dw_398 : decode code 398 = .ok (.iload 5, 2) := by decide +kernel
theorem dw_400 : decode code 400 = .ok (.if_icmp .eq 5, 3) := by decide +kernel
theorem dw_403 : decode code 403 = .ok (.iconst 0, 1) := by decide +kernel
theorem dw_404 : decode code 404 = .ok (.ireturn, 1) := by decide +kernel
theorem dw_405 : decode code 405 = .ok (.goto 1271, 3) := by decide +kernel
theorem dw_408 : decode code 408 = .ok (.aload_n 1, 1) := by decide +kernel
theorem dw_409 : decode code 409 = .ok (.aload_n 0, 1) := by decide +kernel
theorem dw_410 : decode code 410 = .ok (.iload 4, 2) := by decide +kernel
theorem dw_412 : decode code 412 = .ok (.iconst 1, 1) := by decide +kernel
theorem dw_413 : decode code 413 = .ok (.iadd, 1) := by decide +kernel
theorem dw_414 : decode code 414 = .ok (.iaload, 1) := by decide +kernel
theorem dw_415 : decode code 415 = .ok (.aload_n 0, 1) := by decide +kernel
theorem dw_416 : decode code 416 = .ok (.iload 4, 2) := by decide +kernel
theorem dw_418 : decode code 418 = .ok (.iconst 2, 1) := by decide +kernel
theorem dw_419 : decode code 419 = .ok (.iadd, 1) := by decide +kernel
theorem dw_420 : decode code 420 = .ok (.iaload, 1) := by decide +kernel
theorem dw_421 : decode code 421 = .ok (.aload_n 0, 1) := by decide +kernel
theorem dw_422 : decode code 422 = .ok (.iload 4, 2) := by decide +kernel
theorem dw_424 : decode code 424 = .ok (.iconst 3, 1) := by decide +kernel
theorem dw_425 : decode code 425 = .ok (.iadd, 1) := by decide +kernel
theorem dw_426 : decode code 426 = .ok (.iaload, 1) := by decide +kernel
theorem dw_427 : decode code 427 = .ok (.aload_n 0, 1) := by decide +kernel
theorem dw_428 : decode code 428 = .ok (.iload 4, 2) := by decide +kernel
theorem dw_430 : decode code 430 = .ok (.iconst 4, 1) := by decide +kernel
theorem dw_431 : decode code 431 = .ok (.iadd, 1) := by decide +kernel
theorem dw_432 : decode code 432 = .ok (.iaload, 1) := by decide +kernel
theorem dw_433 : decode code 433 = .ok (.ifCond .eq 7, 3) := by decide +kernel
theorem dw_436 : decode code 436 = .ok (.iconst 1, 1) := by decide +kernel
theorem dw_437 : decode code 437 = .ok (.goto 4, 3) := by decide +kernel
theorem dw_440 : decode code 440 = .ok (.iconst 0, 1) := by decide +kernel
theorem dw_441 : decode code 441 = .ok (.invokestatic 115, 3) := by decide +kernel
theorem dw_444 : decode code 444 = .ok (.istore 5, 2) := by decide +kernel
theorem dw_446 : decode code 446 = .ok (.aload_n 2, 1) := by decide +kernel
theorem dw_447 : decode code 447 = .ok (.aload_n 0, 1) := by decide +kernel
theorem dw_448 : decode code 448 = .ok (.iload 4, 2) := by decide +kernel
theorem dw_450 : decode code 450 = .ok (.iconst 1, 1) := by decide +kernel
theorem dw_451 : decode code 451 = .ok (.iadd, 1) := by decide +kernel
theorem dw_452 : decode code 452 = .ok (.iaload, 1) := by decide +kernel
theorem dw_453 : decode code 453 = .ok (.aload_n 0, 1) := by decide +kernel
theorem dw_454 : decode code 454 = .ok (.iload 4, 2) := by decide +kernel
theorem dw_456 : decode code 456 = .ok (.iconst 2, 1) := by decide +kernel
theorem dw_457 : decode code 457 = .ok (.iadd, 1) := by decide +kernel
theorem dw_458 : decode code 458 = .ok (.iaload, 1) := by decide +kernel
theorem dw_459 : decode code 459 = .ok (.aload_n 0, 1) := by decide +kernel
theorem dw_460 : decode code 460 = .ok (.iload 4, 2) := by decide +kernel
theorem dw_462 : decode code 462 = .ok (.iconst 3, 1) := by decide +kernel
theorem dw_463 : decode code 463 = .ok (.iadd, 1) := by decide +kernel
theorem dw_464 : decode code 464 = .ok (.iaload, 1) := by decide +kernel
theorem dw_465 : decode code 465 = .ok (.aload_n 0, 1) := by decide +kernel
theorem dw_466 : decode code 466 = .ok (.iload 4, 2) := by decide +kernel
theorem dw_468 : decode code 468 = .ok (.iconst 4, 1) := by decide +kernel
theorem dw_469 : decode code 469 = .ok (.iadd, 1) := by decide +kernel
theorem dw_470 : decode code 470 = .ok (.iaload, 1) := by decide +kernel
theorem dw_471 : decode code 471 = .ok (.ifCond .eq 7, 3) := by decide +kernel
theorem dw_474 : decode code 474 = .ok (.iconst 1, 1) := by decide +kernel
theorem dw_475 : decode code 475 = .ok (.goto 4, 3) := by decide +kernel
theorem dw_478 : decode code 478 = .ok (.iconst 0, 1) := by decide +kernel
theorem dw_479 : decode code 479 = .ok (.invokevirtual 118, 3) := by decide +kernel
theorem dw_482 : decode code 482 = .ok (.aload_n 2, 1) := by decide +kernel
theorem dw_483 : decode code 483 = .ok (.invokevirtual 100, 3) := by decide +kernel
theorem dw_486 : decode code 486 = .ok (.iload 5, 2) := by decide +kernel
theorem dw_488 : decode code 488 = .ok (.if_icmp .eq 5, 3) := by decide +kernel
theorem dw_491 : decode code 491 = .ok (.iconst 0, 1) := by decide +kernel
theorem dw_492 : decode code 492 = .ok (.ireturn, 1) := by decide +kernel
theorem dw_493 : decode code 493 = .ok (.goto 1183, 3) := by decide +kernel
theorem dw_496 : decode code 496 = .ok (.aload_n 1, 1) := by decide +kernel
theorem dw_497 : decode code 497 = .ok (.aload_n 0, 1) := by decide +kernel
theorem dw_498 : decode code 498 = .ok (.iload 4, 2) := by decide +kernel
theorem dw_500 : decode code 500 = .ok (.iconst 1, 1) := by decide +kernel
theorem dw_501 : decode code 501 = .ok (.iadd, 1) := by decide +kernel
theorem dw_502 : decode code 502 = .ok (.iaload, 1) := by decide +kernel
theorem dw_503 : decode code 503 = .ok (.aload_n 0, 1) := by decide +kernel
theorem dw_504 : decode code 504 = .ok (.iload 4, 2) := by decide +kernel
theorem dw_506 : decode code 506 = .ok (.iconst 2, 1) := by decide +kernel
theorem dw_507 : decode code 507 = .ok (.iadd, 1) := by decide +kernel
theorem dw_508 : decode code 508 = .ok (.iaload, 1) := by decide +kernel
theorem dw_509 : decode code 509 = .ok (.aload_n 0, 1) := by decide +kernel
theorem dw_510 : decode code 510 = .ok (.iload 4, 2) := by decide +kernel
theorem dw_512 : decode code 512 = .ok (.iconst 3, 1) := by decide +kernel
theorem dw_513 : decode code 513 = .ok (.iadd, 1) := by decide +kernel
theorem dw_514 : decode code 514 = .ok (.iaload, 1) := by decide +kernel
theorem dw_515 : decode code 515 = .ok (.aload_n 0, 1) := by decide +kernel
theorem dw_516 : decode code 516 = .ok (.iload 4, 2) := by decide +kernel
theorem dw_518 : decode code 518 = .ok (.iconst 4, 1) := by decide +kernel
theorem dw_519 : decode code 519 = .ok (.iadd, 1) := by decide +kernel
theorem dw_520 : decode code 520 = .ok (.iaload, 1) := by decide +kernel
theorem dw_521 : decode code 521 = .ok (.ifCond .eq 7, 3) := by decide +kernel
theorem dw_524 : decode code 524 = .ok (.iconst 1, 1) := by decide +kernel
theorem dw_525 : decode code 525 = .ok (.goto 4, 3) := by decide +kernel
theorem dw_528 : decode code 528 = .ok (.iconst 0, 1) := by decide +kernel
theorem dw_529 : decode code 529 = .ok (.invokestatic 119, 3) := by decide +kernel
theorem dw_532 : decode code 532 = .ok (.istore 5, 2) := by decide +kernel
theorem dw_534 : decode code 534 = .ok (.aload_n 2, 1) := by decide +kernel
theorem dw_535 : decode code 535 = .ok (.aload_n 0, 1) := by decide +kernel
theorem dw_536 : decode code 536 = .ok (.iload 4, 2) := by decide +kernel
theorem dw_538 : decode code 538 = .ok (.iconst 1, 1) := by decide +kernel
theorem dw_539 : decode code 539 = .ok (.iadd, 1) := by decide +kernel
theorem dw_540 : decode code 540 = .ok (.iaload, 1) := by decide +kernel
theorem dw_541 : decode code 541 = .ok (.aload_n 0, 1) := by decide +kernel
theorem dw_542 : decode code 542 = .ok (.iload 4, 2) := by decide +kernel
theorem dw_544 : decode code 544 = .ok (.iconst 2, 1) := by decide +kernel
theorem dw_545 : decode code 545 = .ok (.iadd, 1) := by decide +kernel
theorem dw_546 : decode code 546 = .ok (.iaload, 1) := by decide +kernel
theorem dw_547 : decode code 547 = .ok (.aload_n 0, 1) := by decide +kernel
theorem dw_548 : decode code 548 = .ok (.iload 4, 2) := by decide +kernel
theorem dw_550 : decode code 550 = .ok (.iconst 3, 1) := by decide +kernel
theorem dw_551 : decode code 551 = .ok (.iadd, 1) := by decide +kernel
theorem dw_552 : decode code 552 = .ok (.iaload, 1) := by decide +kernel
theorem dw_553 : decode code 553 = .ok (.aload_n 0, 1) := by decide +kernel
theorem dw_554 : decode code 554 = .ok (.iload 4, 2) := by decide +kernel
theorem dw_556 : decode code 556 = .ok (.iconst 4, 1) := by decide +kernel
theorem dw_557 : decode code 557 = .ok (.iadd, 1) := by decide +kernel
theorem dw_558 : decode code 558 = .ok (.iaload, 1) := by decide +kernel
theorem dw_559 : decode code 559 = .ok (.ifCond .eq 7, 3) := by decide +kernel
theorem dw_562 : decode code 562 = .ok (.iconst 1, 1) := by decide +kernel
theorem dw_563 : decode code 563 = .ok (.goto 4, 3) := by decide +kernel
theorem dw_566 : decode code 566 = .ok (.iconst 0, 1) := by decide +kernel
theorem dw_567 : decode code 567 = .ok (.invokevirtual 121, 3) := by decide +kernel
theorem dw_570 : decode code 570 = .ok (.aload_n 2, 1) := by decide +kernel
theorem dw_571 : decode code 571 = .ok (.invokevirtual 100, 3) := by decide +kernel
theorem dw_574 : decode code 574 = .ok (.iload 5, 2) := by decide +kernel
theorem dw_576 : decode code 576 = .ok (.if_icmp .eq 5, 3) := by decide +kernel
theorem dw_579 : decode code 579 = .ok (.iconst 0, 1) := by decide +kernel
theorem dw_580 : decode code 580 = .ok (.ireturn, 1) := by decide +kernel
theorem dw_581 : decode code 581 = .ok (.goto 1095, 3) := by decide +kernel
theorem dw_584 : decode code 584 = .ok (.aload_n 1, 1) := by decide +kernel
theorem dw_585 : decode code 585 = .ok (.aload_n 0, 1) := by decide +kernel
theorem dw_586 : decode code 586 = .ok (.iload 4, 2) := by decide +kernel
theorem dw_588 : decode code 588 = .ok (.iconst 1, 1) := by decide +kernel
theorem dw_589 : decode code 589 = .ok (.iadd, 1) := by decide +kernel
theorem dw_590 : decode code 590 = .ok (.iaload, 1) := by decide +kernel
theorem dw_591 : decode code 591 = .ok (.aload_n 0, 1) := by decide +kernel
theorem dw_592 : decode code 592 = .ok (.iload 4, 2) := by decide +kernel
theorem dw_594 : decode code 594 = .ok (.iconst 2, 1) := by decide +kernel
theorem dw_595 : decode code 595 = .ok (.iadd, 1) := by decide +kernel
theorem dw_596 : decode code 596 = .ok (.iaload, 1) := by decide +kernel
theorem dw_597 : decode code 597 = .ok (.aload_n 0, 1) := by decide +kernel
theorem dw_598 : decode code 598 = .ok (.iload 4, 2) := by decide +kernel
theorem dw_600 : decode code 600 = .ok (.iconst 3, 1) := by decide +kernel
theorem dw_601 : decode code 601 = .ok (.iadd, 1) := by decide +kernel
theorem dw_602 : decode code 602 = .ok (.iaload, 1) := by decide +kernel
theorem dw_603 : decode code 603 = .ok (.aload_n 0, 1) := by decide +kernel
theorem dw_604 : decode code 604 = .ok (.iload 4, 2) := by decide +kernel
theorem dw_606 : decode code 606 = .ok (.iconst 4, 1) := by decide +kernel
theorem dw_607 : decode code 607 = .ok (.iadd, 1) := by decide +kernel
theorem dw_608 : decode code 608 = .ok (.iaload, 1) := by decide +kernel
theorem dw_609 : decode code 609 = .ok (.invokestatic 122, 3) := by decide +kernel
theorem dw_612 : decode code 612 = .ok (.istore 5, 2) := by decide +kernel
theorem dw_614 : decode code 614 = .ok (.aload_n 2, 1) := by decide +kernel
theorem dw_615 : decode code 615 = .ok (.aload_n 0, 1) := by decide +kernel
theorem dw_616 : decode code 616 = .ok (.iload 4, 2) := by decide +kernel
theorem dw_618 : decode code 618 = .ok (.iconst 1, 1) := by decide +kernel
theorem dw_619 : decode code 619 = .ok (.iadd, 1) := by decide +kernel
theorem dw_620 : decode code 620 = .ok (.iaload, 1) := by decide +kernel
theorem dw_621 : decode code 621 = .ok (.aload_n 0, 1) := by decide +kernel
theorem dw_622 : decode code 622 = .ok (.iload 4, 2) := by decide +kernel
theorem dw_624 : decode code 624 = .ok (.iconst 2, 1) := by decide +kernel
theorem dw_625 : decode code 625 = .ok (.iadd, 1) := by decide +kernel
theorem dw_626 : decode code 626 = .ok (.iaload, 1) := by decide +kernel
theorem dw_627 : decode code 627 = .ok (.aload_n 0, 1) := by decide +kernel
theorem dw_628 : decode code 628 = .ok (.iload 4, 2) := by decide +kernel
theorem dw_630 : decode code 630 = .ok (.iconst 3, 1) := by decide +kernel
theorem dw_631 : decode code 631 = .ok (.iadd, 1) := by decide +kernel
theorem dw_632 : decode code 632 = .ok (.iaload, 1) := by decide +kernel
theorem dw_633 : decode code 633 = .ok (.aload_n 0, 1) := by decide +kernel
theorem dw_634 : decode code 634 = .ok (.iload 4, 2) := by decide +kernel
theorem dw_636 : decode code 636 = .ok (.iconst 4, 1) := by decide +kernel
theorem dw_637 : decode code 637 = .ok (.iadd, 1) := by decide +kernel
theorem dw_638 : decode code 638 = .ok (.iaload, 1) := by decide +kernel
theorem dw_639 : decode code 639 = .ok (.invokevirtual 124, 3) := by decide +kernel
theorem dw_642 : decode code 642 = .ok (.aload_n 2, 1) := by decide +kernel
theorem dw_643 : decode code 643 = .ok (.invokevirtual 100, 3) := by decide +kernel
theorem dw_646 : decode code 646 = .ok (.iload 5, 2) := by decide +kernel
theorem dw_648 : decode code 648 = .ok (.if_icmp .eq 5, 3) := by decide +kernel
theorem dw_651 : decode code 651 = .ok (.iconst 0, 1) := by decide +kernel
theorem dw_652 : decode code 652 = .ok (.ireturn, 1) := by decide +kernel
theorem dw_653 : decode code 653 = .ok (.goto 1023, 3) := by decide +kernel
theorem dw_656 : decode code 656 = .ok (.aload_n 1, 1) := by decide +kernel
theorem dw_657 : decode code 657 = .ok (.aload_n 0, 1) := by decide +kernel
theorem dw_658 : decode code 658 = .ok (.iload 4, 2) := by decide +kernel
theorem dw_660 : decode code 660 = .ok (.iconst 1, 1) := by decide +kernel
theorem dw_661 : decode code 661 = .ok (.iadd, 1) := by decide +kernel
theorem dw_662 : decode code 662 = .ok (.iaload, 1) := by decide +kernel
theorem dw_663 : decode code 663 = .ok (.aload_n 0, 1) := by decide +kernel
theorem dw_664 : decode code 664 = .ok (.iload 4, 2) := by decide +kernel
theorem dw_666 : decode code 666 = .ok (.iconst 2, 1) := by decide +kernel
theorem dw_667 : decode code 667 = .ok (.iadd, 1) := by decide +kernel
theorem dw_668 : decode code 668 = .ok (.iaload, 1) := by decide +kernel
theorem dw_669 : decode code 669 = .ok (.aload_n 0, 1) := by decide +kernel
theorem dw_670 : decode code 670 = .ok (.iload 4, 2) := by decide +kernel
theorem dw_672 : decode code 672 = .ok (.iconst 3, 1) := by decide +kernel
theorem dw_673 : decode code 673 = .ok (.iadd, 1) := by decide +kernel
theorem dw_674 : decode code 674 = .ok (.iaload, 1) := by decide +kernel
theorem dw_675 : decode code 675 = .ok (.aload_n 0, 1) := by decide +kernel
theorem dw_676 : decode code 676 = .ok (.iload 4, 2) := by decide +kernel
theorem dw_678 : decode code 678 = .ok (.iconst 4, 1) := by decide +kernel
theorem dw_679 : decode code 679 = .ok (.iadd, 1) := by decide +kernel
theorem dw_680 : decode code 680 = .ok (.iaload, 1) := by decide +kernel
theorem dw_681 : decode code 681 = .ok (.invokestatic 125, 3) := by decide +kernel
theorem dw_684 : decode code 684 = .ok (.istore 5, 2) := by decide +kernel
theorem dw_686 : decode code 686 = .ok (.aload_n 2, 1) := by decide +kernel
theorem dw_687 : decode code 687 = .ok (.aload_n 0, 1) := by decide +kernel
theorem dw_688 : decode code 688 = .ok (.iload 4, 2) := by decide +kernel
theorem dw_690 : decode code 690 = .ok (.iconst 1, 1) := by decide +kernel
theorem dw_691 : decode code 691 = .ok (.iadd, 1) := by decide +kernel
theorem dw_692 : decode code 692 = .ok (.iaload, 1) := by decide +kernel
theorem dw_693 : decode code 693 = .ok (.aload_n 0, 1) := by decide +kernel
theorem dw_694 : decode code 694 = .ok (.iload 4, 2) := by decide +kernel
theorem dw_696 : decode code 696 = .ok (.iconst 2, 1) := by decide +kernel
theorem dw_697 : decode code 697 = .ok (.iadd, 1) := by decide +kernel
theorem dw_698 : decode code 698 = .ok (.iaload, 1) := by decide +kernel
theorem dw_699 : decode code 699 = .ok (.aload_n 0, 1) := by decide +kernel
theorem dw_700 : decode code 700 = .ok (.iload 4, 2) := by decide +kernel
theorem dw_702 : decode code 702 = .ok (.iconst 3, 1) := by decide +kernel
theorem dw_703 : decode code 703 = .ok (.iadd, 1) := by decide +kernel
theorem dw_704 : decode code 704 = .ok (.iaload, 1) := by decide +kernel
theorem dw_705 : decode code 705 = .ok (.aload_n 0, 1) := by decide +kernel
theorem dw_706 : decode code 706 = .ok (.iload 4, 2) := by decide +kernel
theorem dw_708 : decode code 708 = .ok (.iconst 4, 1) := by decide +kernel
theorem dw_709 : decode code 709 = .ok (.iadd, 1) := by decide +kernel
theorem dw_710 : decode code 710 = .ok (.iaload, 1) := by decide +kernel
theorem dw_711 : decode code 711 = .ok (.invokevirtual 127, 3) := by decide +kernel
theorem dw_714 : decode code 714 = .ok (.aload_n 2, 1) := by decide +kernel
theorem dw_715 : decode code 715 = .ok (.invokevirtual 100, 3) := by decide +kernel
theorem dw_718 : decode code 718 = .ok (.iload 5, 2) := by decide +kernel
theorem dw_720 : decode code 720 = .ok (.if_icmp .eq 5, 3) := by decide +kernel
theorem dw_723 : decode code 723 = .ok (.iconst 0, 1) := by decide +kernel
theorem dw_724 : decode code 724 = .ok (.ireturn, 1) := by decide +kernel
theorem dw_725 : decode code 725 = .ok (.goto 951, 3) := by decide +kernel
theorem dw_728 : decode code 728 = .ok (.aload_n 1, 1) := by decide +kernel
theorem dw_729 : decode code 729 = .ok (.aload_n 0, 1) := by decide +kernel
theorem dw_730 : decode code 730 = .ok (.iload 4, 2) := by decide +kernel
theorem dw_732 : decode code 732 = .ok (.iconst 1, 1) := by decide +kernel
theorem dw_733 : decode code 733 = .ok (.iadd, 1) := by decide +kernel
theorem dw_734 : decode code 734 = .ok (.iaload, 1) := by decide +kernel
theorem dw_735 : decode code 735 = .ok (.aload_n 0, 1) := by decide +kernel
theorem dw_736 : decode code 736 = .ok (.iload 4, 2) := by decide +kernel
theorem dw_738 : decode code 738 = .ok (.iconst 2, 1) := by decide +kernel
theorem dw_739 : decode code 739 = .ok (.iadd, 1) := by decide +kernel
theorem dw_740 : decode code 740 = .ok (.iaload, 1) := by decide +kernel
theorem dw_741 : decode code 741 = .ok (.invokestatic 128, 3) := by decide +kernel
theorem dw_744 : decode code 744 = .ok (.istore 5, 2) := by decide +kernel
theorem dw_746 : decode code 746 = .ok (.aload_n 2, 1) := by decide +kernel
theorem dw_747 : decode code 747 = .ok (.aload_n 0, 1) := by decide +kernel
theorem dw_748 : decode code 748 = .ok (.iload 4, 2) := by decide +kernel
theorem dw_750 : decode code 750 = .ok (.iconst 1, 1) := by decide +kernel
theorem dw_751 : decode code 751 = .ok (.iadd, 1) := by decide +kernel
theorem dw_752 : decode code 752 = .ok (.iaload, 1) := by decide +kernel
theorem dw_753 : decode code 753 = .ok (.aload_n 0, 1) := by decide +kernel
theorem dw_754 : decode code 754 = .ok (.iload 4, 2) := by decide +kernel
theorem dw_756 : decode code 756 = .ok (.iconst 2, 1) := by decide +kernel
theorem dw_757 : decode code 757 = .ok (.iadd, 1) := by decide +kernel
theorem dw_758 : decode code 758 = .ok (.iaload, 1) := by decide +kernel
theorem dw_759 : decode code 759 = .ok (.invokevirtual 130, 3) := by decide +kernel
theorem dw_762 : decode code 762 = .ok (.aload_n 2, 1) := by decide +kernel
theorem dw_763 : decode code 763 = .ok (.invokevirtual 100, 3) := by decide +kernel
theorem dw_766 : decode code 766 = .ok (.iload 5, 2) := by decide +kernel
theorem dw_768 : decode code 768 = .ok (.if_icmp .eq 5, 3) := by decide +kernel
theorem dw_771 : decode code 771 = .ok (.iconst 0, 1) := by decide +kernel
theorem dw_772 : decode code 772 = .ok (.ireturn, 1) := by decide +kernel
theorem dw_773 : decode code 773 = .ok (.goto 903, 3) := by decide +kernel
theorem dw_776 : decode code 776 = .ok (.aload_n 1, 1) := by decide +kernel
theorem dw_777 : decode code 777 = .ok (.aload_n 0, 1) := by decide +kernel
theorem dw_778 : decode code 778 = .ok (.iload 4, 2) := by decide +kernel
theorem dw_780 : decode code 780 = .ok (.iconst 1, 1) := by decide +kernel
theorem dw_781 : decode code 781 = .ok (.iadd, 1) := by decide +kernel
theorem dw_782 : decode code 782 = .ok (.iaload, 1) := by decide +kernel
theorem dw_783 : decode code 783 = .ok (.aload_n 0, 1) := by decide +kernel
theorem dw_784 : decode code 784 = .ok (.iload 4, 2) := by decide +kernel
theorem dw_786 : decode code 786 = .ok (.iconst 2, 1) := by decide +kernel
theorem dw_787 : decode code 787 = .ok (.iadd, 1) := by decide +kernel
theorem dw_788 : decode code 788 = .ok (.iaload, 1) := by decide +kernel
theorem dw_789 : decode code 789 = .ok (.aload_n 3, 1) := by decide +kernel
theorem dw_790 : decode code 790 = .ok (.invokestatic 131, 3) := by decide +kernel
theorem dw_793 : decode code 793 = .ok (.istore 5, 2) := by decide +kernel
theorem dw_795 : decode code 795 = .ok (.aload_n 2, 1) := by decide +kernel
theorem dw_796 : decode code 796 = .ok (.aload_n 0, 1) := by decide +kernel
theorem dw_797 : decode code 797 = .ok (.iload 4, 2) := by decide +kernel
theorem dw_799 : decode code 799 = .ok (.iconst 1, 1) := by decide +kernel
theorem dw_800 : decode code 800 = .ok (.iadd, 1) := by decide +kernel
theorem dw_801 : decode code 801 = .ok (.iaload, 1) := by decide +kernel
theorem dw_802 : decode code 802 = .ok (.aload_n 0, 1) := by decide +kernel
theorem dw_803 : decode code 803 = .ok (.iload 4, 2) := by decide +kernel
theorem dw_805 : decode code 805 = .ok (.iconst 2, 1) := by decide +kernel
theorem dw_806 : decode code 806 = .ok (.iadd, 1) := by decide +kernel
theorem dw_807 : decode code 807 = .ok (.iaload, 1) := by decide +kernel
theorem dw_808 : decode code 808 = .ok (.invokevirtual 134, 3) := by decide +kernel
theorem dw_811 : decode code 811 = .ok (.istore 6, 2) := by decide +kernel
theorem dw_813 : decode code 813 = .ok (.aload_n 2, 1) := by decide +kernel
theorem dw_814 : decode code 814 = .ok (.invokevirtual 100, 3) := by decide +kernel
theorem dw_817 : decode code 817 = .ok (.iload 5, 2) := by decide +kernel
theorem dw_819 : decode code 819 = .ok (.if_icmp .eq 5, 3) := by decide +kernel
theorem dw_822 : decode code 822 = .ok (.iconst 0, 1) := by decide +kernel
theorem dw_823 : decode code 823 = .ok (.ireturn, 1) := by decide +kernel
theorem dw_824 : decode code 824 = .ok (.iload 5, 2) := by decide +kernel
theorem dw_826 : decode code 826 = .ok (.ifCond .ne 22, 3) := by decide +kernel
theorem dw_829 : decode code 829 = .ok (.aload_n 3, 1) := by decide +kernel
theorem dw_830 : decode code 830 = .ok (.iconst 0, 1) := by decide +kernel
theorem dw_831 : decode code 831 = .ok (.laload, 1) := by decide +kernel
theorem dw_832 : decode code 832 = .ok (.iload 6, 2) := by decide +kernel
theorem dw_834 : decode code 834 = .ok (.ifCond .eq 7, 3) := by decide +kernel
theorem dw_837 : decode code 837 = .ok (.lconst 1, 1) := by decide +kernel
theorem dw_838 : decode code 838 = .ok (.goto 4, 3) := by decide +kernel
theorem dw_841 : decode code 841 = .ok (.lconst 0, 1) := by decide +kernel
theorem dw_842 : decode code 842 = .ok (.lcmp, 1) := by decide +kernel
theorem dw_843 : decode code 843 = .ok (.ifCond .eq 5, 3) := by decide +kernel
theorem dw_846 : decode code 846 = .ok (.iconst 0, 1) := by decide +kernel
theorem dw_847 : decode code 847 = .ok (.ireturn, 1) := by decide +kernel
theorem dw_848 : decode code 848 = .ok (.goto 828, 3) := by decide +kernel
theorem dw_851 : decode code 851 = .ok (.aload_n 1, 1) := by decide +kernel
theorem dw_852 : decode code 852 = .ok (.aload_n 0, 1) := by decide +kernel
theorem dw_853 : decode code 853 = .ok (.iload 4, 2) := by decide +kernel
theorem dw_855 : decode code 855 = .ok (.iconst 1, 1) := by decide +kernel
theorem dw_856 : decode code 856 = .ok (.iadd, 1) := by decide +kernel
theorem dw_857 : decode code 857 = .ok (.iaload, 1) := by decide +kernel
theorem dw_858 : decode code 858 = .ok (.aload_n 0, 1) := by decide +kernel
theorem dw_859 : decode code 859 = .ok (.iload 4, 2) := by decide +kernel
theorem dw_861 : decode code 861 = .ok (.iconst 2, 1) := by decide +kernel
theorem dw_862 : decode code 862 = .ok (.iadd, 1) := by decide +kernel
theorem dw_863 : decode code 863 = .ok (.iaload, 1) := by decide +kernel
theorem dw_864 : decode code 864 = .ok (.aload_n 3, 1) := by decide +kernel
theorem dw_865 : decode code 865 = .ok (.invokestatic 135, 3) := by decide +kernel
theorem dw_868 : decode code 868 = .ok (.istore 5, 2) := by decide +kernel
theorem dw_870 : decode code 870 = .ok (.aload_n 2, 1) := by decide +kernel
theorem dw_871 : decode code 871 = .ok (.aload_n 0, 1) := by decide +kernel
theorem dw_872 : decode code 872 = .ok (.iload 4, 2) := by decide +kernel
theorem dw_874 : decode code 874 = .ok (.iconst 1, 1) := by decide +kernel
theorem dw_875 : decode code 875 = .ok (.iadd, 1) := by decide +kernel
theorem dw_876 : decode code 876 = .ok (.iaload, 1) := by decide +kernel
theorem dw_877 : decode code 877 = .ok (.aload_n 0, 1) := by decide +kernel
theorem dw_878 : decode code 878 = .ok (.iload 4, 2) := by decide +kernel
theorem dw_880 : decode code 880 = .ok (.iconst 2, 1) := by decide +kernel
theorem dw_881 : decode code 881 = .ok (.iadd, 1) := by decide +kernel
theorem dw_882 : decode code 882 = .ok (.iaload, 1) := by decide +kernel
theorem dw_883 : decode code 883 = .ok (.invokevirtual 137, 3) := by decide +kernel
theorem dw_886 : decode code 886 = .ok (.istore 6, 2) := by decide +kernel
theorem dw_888 : decode code 888 = .ok (.aload_n 2, 1) := by decide +kernel
theorem dw_889 : decode code 889 = .ok (.invokevirtual 100, 3) := by decide +kernel
theorem dw_892 : decode code 892 = .ok (.iload 5, 2) := by decide +kernel
theorem dw_894 : decode code 894 = .ok (.if_icmp .eq 5, 3) := by decide +kernel
theorem dw_897 : decode code 897 = .ok (.iconst 0, 1) := by decide +kernel
theorem dw_898 : decode code 898 = .ok (.ireturn, 1) := by decide +kernel
theorem dw_899 : decode code 899 = .ok (.iload 5, 2) := by decide +kernel
theorem dw_901 : decode code 901 = .ok (.ifCond .ne 22, 3) := by decide +kernel
theorem dw_904 : decode code 904 = .ok (.aload_n 3, 1) := by decide +kernel
theorem dw_905 : decode code 905 = .ok (.iconst 0, 1) := by decide +kernel
theorem dw_906 : decode code 906 = .ok (.laload, 1) := by decide +kernel
theorem dw_907 : decode code 907 = .ok (.iload 6, 2) := by decide +kernel
theorem dw_909 : decode code 909 = .ok (.ifCond .eq 7, 3) := by decide +kernel
theorem dw_912 : decode code 912 = .ok (.lconst 1, 1) := by decide +kernel
theorem dw_913 : decode code 913 = .ok (.goto 4, 3) := by decide +kernel
theorem dw_916 : decode code 916 = .ok (.lconst 0, 1) := by decide +kernel
theorem dw_917 : decode code 917 = .ok (.lcmp, 1) := by decide +kernel
theorem dw_918 : decode code 918 = .ok (.ifCond .eq 5, 3) := by decide +kernel
theorem dw_921 : decode code 921 = .ok (.iconst 0, 1) := by decide +kernel
theorem dw_922 : decode code 922 = .ok (.ireturn, 1) := by decide +kernel
theorem dw_923 : decode code 923 = .ok (.goto 753, 3) := by decide +kernel
theorem dw_926 : decode code 926 = .ok (.aload_n 1, 1) := by decide +kernel
theorem dw_927 : decode code 927 = .ok (.aload_n 0, 1) := by decide +kernel
theorem dw_928 : decode code 928 = .ok (.iload 4, 2) := by decide +kernel
theorem dw_930 : decode code 930 = .ok (.iconst 1, 1) := by decide +kernel
theorem dw_931 : decode code 931 = .ok (.iadd, 1) := by decide +kernel
theorem dw_932 : decode code 932 = .ok (.iaload, 1) := by decide +kernel
theorem dw_933 : decode code 933 = .ok (.aload_n 3, 1) := by decide +kernel
theorem dw_934 : decode code 934 = .ok (.invokestatic 138, 3) := by decide +kernel
theorem dw_937 : decode code 937 = .ok (.istore 5, 2) := by decide +kernel
theorem dw_939 : decode code 939 = .ok (.aload_n 2, 1) := by decide +kernel
theorem dw_940 : decode code 940 = .ok (.aload_n 0, 1) := by decide +kernel
theorem dw_941 : decode code 941 = .ok (.iload 4, 2) := by decide +kernel
theorem dw_943 : decode code 943 = .ok (.iconst 1, 1) := by decide +kernel
theorem dw_944 : decode code 944 = .ok (.iadd, 1) := by decide +kernel
theorem dw_945 : decode code 945 = .ok (.iaload, 1) := by decide +kernel
theorem dw_946 : decode code 946 = .ok (.invokevirtual 141, 3) := by decide +kernel
theorem dw_949 : decode code 949 = .ok (.istore 6, 2) := by decide +kernel
theorem dw_951 : decode code 951 = .ok (.aload_n 2, 1) := by decide +kernel
theorem dw_952 : decode code 952 = .ok (.invokevirtual 100, 3) := by decide +kernel
theorem dw_955 : decode code 955 = .ok (.iload 5, 2) := by decide +kernel
theorem dw_957 : decode code 957 = .ok (.if_icmp .eq 5, 3) := by decide +kernel
theorem dw_960 : decode code 960 = .ok (.iconst 0, 1) := by decide +kernel
theorem dw_961 : decode code 961 = .ok (.ireturn, 1) := by decide +kernel
theorem dw_962 : decode code 962 = .ok (.iload 5, 2) := by decide +kernel
theorem dw_964 : decode code 964 = .ok (.ifCond .ne 15, 3) := by decide +kernel
theorem dw_967 : decode code 967 = .ok (.aload_n 3, 1) := by decide +kernel
theorem dw_968 : decode code 968 = .ok (.iconst 0, 1) := by decide +kernel
theorem dw_969 : decode code 969 = .ok (.laload, 1) := by decide +kernel
theorem dw_970 : decode code 970 = .ok (.iload 6, 2) := by decide +kernel
theorem dw_972 : decode code 972 = .ok (.i2l, 1) := by decide +kernel
theorem dw_973 : decode code 973 = .ok (.lcmp, 1) := by decide +kernel
theorem dw_974 : decode code 974 = .ok (.ifCond .eq 5, 3) := by decide +kernel
theorem dw_977 : decode code 977 = .ok (.iconst 0, 1) := by decide +kernel
theorem dw_978 : decode code 978 = .ok (.ireturn, 1) := by decide +kernel
theorem dw_979 : decode code 979 = .ok (.goto 697, 3) := by decide +kernel
theorem dw_982 : decode code 982 = .ok (.aload_n 1, 1) := by decide +kernel
theorem dw_983 : decode code 983 = .ok (.aload_n 0, 1) := by decide +kernel
theorem dw_984 : decode code 984 = .ok (.iload 4, 2) := by decide +kernel
theorem dw_986 : decode code 986 = .ok (.iconst 1, 1) := by decide +kernel
theorem dw_987 : decode code 987 = .ok (.iadd, 1) := by decide +kernel
theorem dw_988 : decode code 988 = .ok (.iaload, 1) := by decide +kernel
theorem dw_989 : decode code 989 = .ok (.aload_n 3, 1) := by decide +kernel
theorem dw_990 : decode code 990 = .ok (.invokestatic 142, 3) := by decide +kernel
theorem dw_993 : decode code 993 = .ok (.istore 5, 2) := by decide +kernel
theorem dw_995 : decode code 995 = .ok (.aload_n 2, 1) := by decide +kernel
theorem dw_996 : decode code 996 = .ok (.aload_n 0, 1) := by decide +kernel
theorem dw_997 : decode code 997 = .ok (.iload 4, 2) := by decide +kernel
theorem dw_999 : decode code 999 = .ok (.iconst 1, 1) := by decide +kernel
theorem dw_1000 : decode code 1000 = .ok (.iadd, 1) := by decide +kernel
theorem dw_1001 : decode code 1001 = .ok (.iaload, 1) := by decide +kernel
theorem dw_1002 : decode code 1002 = .ok (.invokevirtual 144, 3) := by decide +kernel
theorem dw_1005 : decode code 1005 = .ok (.istore 6, 2) := by decide +kernel
theorem dw_1007 : decode code 1007 = .ok (.aload_n 2, 1) := by decide +kernel
theorem dw_1008 : decode code 1008 = .ok (.invokevirtual 100, 3) := by decide +kernel
theorem dw_1011 : decode code 1011 = .ok (.iload 5, 2) := by decide +kernel
theorem dw_1013 : decode code 1013 = .ok (.if_icmp .eq 5, 3) := by decide +kernel
theorem dw_1016 : decode code 1016 = .ok (.iconst 0, 1) := by decide +kernel
theorem dw_1017 : decode code 1017 = .ok (.ireturn, 1) := by decide +kernel
theorem dw_1018 : decode code 1018 = .ok (.iload 5, 2) := by decide +kernel
theorem dw_1020 : decode code 1020 = .ok (.ifCond .ne 15, 3) := by decide +kernel
theorem dw_1023 : decode code 1023 = .ok (.aload_n 3, 1) := by decide +kernel
theorem dw_1024 : decode code 1024 = .ok (.iconst 0, 1) := by decide +kernel
theorem dw_1025 : decode code 1025 = .ok (.laload, 1) := by decide +kernel
theorem dw_1026 : decode code 1026 = .ok (.iload 6, 2) := by decide +kernel
theorem dw_1028 : decode code 1028 = .ok (.i2l, 1) := by decide +kernel
theorem dw_1029 : decode code 1029 = .ok (.lcmp, 1) := by decide +kernel
theorem dw_1030 : decode code 1030 = .ok (.ifCond .eq 5, 3) := by decide +kernel
theorem dw_1033 : decode code 1033 = .ok (.iconst 0, 1) := by decide +kernel
theorem dw_1034 : decode code 1034 = .ok (.ireturn, 1) := by decide +kernel
theorem dw_1035 : decode code 1035 = .ok (.goto 641, 3) := by decide +kernel
theorem dw_1038 : decode code 1038 = .ok (.aload_n 1, 1) := by decide +kernel
theorem dw_1039 : decode code 1039 = .ok (.aload_n 0, 1) := by decide +kernel
theorem dw_1040 : decode code 1040 = .ok (.iload 4, 2) := by decide +kernel
theorem dw_1042 : decode code 1042 = .ok (.iconst 1, 1) := by decide +kernel
theorem dw_1043 : decode code 1043 = .ok (.iadd, 1) := by decide +kernel
theorem dw_1044 : decode code 1044 = .ok (.iaload, 1) := by decide +kernel
theorem dw_1045 : decode code 1045 = .ok (.aload_n 3, 1) := by decide +kernel
theorem dw_1046 : decode code 1046 = .ok (.invokestatic 145, 3) := by decide +kernel
theorem dw_1049 : decode code 1049 = .ok (.istore 5, 2) := by decide +kernel
theorem dw_1051 : decode code 1051 = .ok (.aload_n 2, 1) := by decide +kernel
theorem dw_1052 : decode code 1052 = .ok (.aload_n 0, 1) := by decide +kernel
theorem dw_1053 : decode code 1053 = .ok (.iload 4, 2) := by decide +kernel
theorem dw_1055 : decode code 1055 = .ok (.iconst 1, 1) := by decide +kernel
theorem dw_1056 : decode code 1056 = .ok (.iadd, 1) := by decide +kernel
theorem dw_1057 : decode code 1057 = .ok (.iaload, 1) := by decide +kernel
theorem dw_1058 : decode code 1058 = .ok (.invokevirtual 147, 3) := by decide +kernel
theorem dw_1061 : decode code 1061 = .ok (.istore 6, 2) := by decide +kernel
theorem dw_1063 : decode code 1063 = .ok (.aload_n 2, 1) := by decide +kernel
theorem dw_1064 : decode code 1064 = .ok (.invokevirtual 100, 3) := by decide +kernel
theorem dw_1067 : decode code 1067 = .ok (.iload 5, 2) := by decide +kernel
theorem dw_1069 : decode code 1069 = .ok (.if_icmp .eq 5, 3) := by decide +kernel
theorem dw_1072 : decode code 1072 = .ok (.iconst 0, 1) := by decide +kernel
theorem dw_1073 : decode code 1073 = .ok (.ireturn, 1) := by decide +kernel
theorem dw_1074 : decode code 1074 = .ok (.iload 5, 2) := by decide +kernel
theorem dw_1076 : decode code 1076 = .ok (.ifCond .ne 15, 3) := by decide +kernel
theorem dw_1079 : decode code 1079 = .ok (.aload_n 3, 1) := by decide +kernel
theorem dw_1080 : decode code 1080 = .ok (.iconst 0, 1) := by decide +kernel
theorem dw_1081 : decode code 1081 = .ok (.laload, 1) := by decide +kernel
theorem dw_1082 : decode code 1082 = .ok (.iload 6, 2) := by decide +kernel
theorem dw_1084 : decode code 1084 = .ok (.i2l, 1) := by decide +kernel
theorem dw_1085 : decode code 1085 = .ok (.lcmp, 1) := by decide +kernel
theorem dw_1086 : decode code 1086 = .ok (.ifCond .eq 5, 3) := by decide +kernel
theorem dw_1089 : decode code 1089 = .ok (.iconst 0, 1) := by decide +kernel
theorem dw_1090 : decode code 1090 = .ok (.ireturn, 1) := by decide +kernel
theorem dw_1091 : decode code 1091 = .ok (.goto 585, 3) := by decide +kernel
theorem dw_1094 : decode code 1094 = .ok (.aload_n 1, 1) := by decide +kernel
theorem dw_1095 : decode code 1095 = .ok (.aload_n 0, 1) := by decide +kernel
theorem dw_1096 : decode code 1096 = .ok (.iload 4, 2) := by decide +kernel
theorem dw_1098 : decode code 1098 = .ok (.iconst 1, 1) := by decide +kernel
theorem dw_1099 : decode code 1099 = .ok (.iadd, 1) := by decide +kernel
theorem dw_1100 : decode code 1100 = .ok (.iaload, 1) := by decide +kernel
theorem dw_1101 : decode code 1101 = .ok (.aload_n 3, 1) := by decide +kernel
theorem dw_1102 : decode code 1102 = .ok (.invokestatic 148, 3) := by decide +kernel
theorem dw_1105 : decode code 1105 = .ok (.istore 5, 2) := by decide +kernel
theorem dw_1107 : decode code 1107 = .ok (.aload_n 2, 1) := by decide +kernel
theorem dw_1108 : decode code 1108 = .ok (.aload_n 0, 1) := by decide +kernel
theorem dw_1109 : decode code 1109 = .ok (.iload 4, 2) := by decide +kernel
theorem dw_1111 : decode code 1111 = .ok (.iconst 1, 1) := by decide +kernel
theorem dw_1112 : decode code 1112 = .ok (.iadd, 1) := by decide +kernel
theorem dw_1113 : decode code 1113 = .ok (.iaload, 1) := by decide +kernel
theorem dw_1114 : decode code 1114 = .ok (.invokevirtual 150, 3) := by decide +kernel
theorem dw_1117 : decode code 1117 = .ok (.istore 6, 2) := by decide +kernel
theorem dw_1119 : decode code 1119 = .ok (.aload_n 2, 1) := by decide +kernel
theorem dw_1120 : decode code 1120 = .ok (.invokevirtual 100, 3) := by decide +kernel
theorem dw_1123 : decode code 1123 = .ok (.iload 5, 2) := by decide +kernel
theorem dw_1125 : decode code 1125 = .ok (.if_icmp .eq 5, 3) := by decide +kernel
theorem dw_1128 : decode code 1128 = .ok (.iconst 0, 1) := by decide +kernel
theorem dw_1129 : decode code 1129 = .ok (.ireturn, 1) := by decide +kernel
theorem dw_1130 : decode code 1130 = .ok (.iload 5, 2) := by decide +kernel
theorem dw_1132 : decode code 1132 = .ok (.ifCond .ne 15, 3) := by decide +kernel
theorem dw_1135 : decode code 1135 = .ok (.aload_n 3, 1) := by decide +kernel
theorem dw_1136 : decode code 1136 = .ok (.iconst 0, 1) := by decide +kernel
theorem dw_1137 : decode code 1137 = .ok (.laload, 1) := by decide +kernel
theorem dw_1138 : decode code 1138 = .ok (.iload 6, 2) := by decide +kernel
theorem dw_1140 : decode code 1140 = .ok (.i2l, 1) := by decide +kernel
theorem dw_1141 : decode code 1141 = .ok (.lcmp, 1) := by decide +kernel
theorem dw_1142 : decode code 1142 = .ok (.ifCond .eq 5, 3) := by decide +kernel
theorem dw_1145 : decode code 1145 = .ok (.iconst 0, 1) := by decide +kernel
theorem dw_1146 : decode code 1146 = .ok (.ireturn, 1) := by decide +kernel
theorem dw_1147 : decode code 1147 = .ok (.goto 529, 3) := by decide +kernel
theorem dw_1150 : decode code 1150 = .ok (.aload_n 1, 1) := by decide +kernel
theorem dw_1151 : decode code 1151 = .ok (.invokevirtual 151, 3) := by decide +kernel
theorem dw_1154 : decode code 1154 = .ok (.aload_n 2, 1) := by decide +kernel
theorem dw_1155 : decode code 1155 = .ok (.invokevirtual 154, 3) := by decide +kernel
theorem dw_1158 : decode code 1158 = .ok (.if_icmp .eq 518, 3) := by decide +kernel
theorem dw_1161 : decode code 1161 = .ok (.iconst 0, 1) := by decide +kernel
theorem dw_1162 : decode code 1162 = .ok (.ireturn, 1) := by decide +kernel
theorem dw_1163 : decode code 1163 = .ok (.aload_n 1, 1) := by decide +kernel
theorem dw_1164 : decode code 1164 = .ok (.aload_n 0, 1) := by decide +kernel
theorem dw_1165 : decode code 1165 = .ok (.iload 4, 2) := by decide +kernel
theorem dw_1167 : decode code 1167 = .ok (.iconst 1, 1) := by decide +kernel
theorem dw_1168 : decode code 1168 = .ok (.iadd, 1) := by decide +kernel
theorem dw_1169 : decode code 1169 = .ok (.iaload, 1) := by decide +kernel
theorem dw_1170 : decode code 1170 = .ok (.aload_n 3, 1) := by decide +kernel
theorem dw_1171 : decode code 1171 = .ok (.invokestatic 155, 3) := by decide +kernel
theorem dw_1174 : decode code 1174 = .ok (.istore 5, 2) := by decide +kernel
theorem dw_1176 : decode code 1176 = .ok (.aload_n 2, 1) := by decide +kernel
theorem dw_1177 : decode code 1177 = .ok (.aload_n 0, 1) := by decide +kernel
theorem dw_1178 : decode code 1178 = .ok (.iload 4, 2) := by decide +kernel
theorem dw_1180 : decode code 1180 = .ok (.iconst 1, 1) := by decide +kernel
theorem dw_1181 : decode code 1181 = .ok (.iadd, 1) := by decide +kernel
theorem dw_1182 : decode code 1182 = .ok (.iaload, 1) := by decide +kernel
theorem dw_1183 : decode code 1183 = .ok (.invokevirtual 157, 3) := by decide +kernel
theorem dw_1186 : decode code 1186 = .ok (.istore 6, 2) := by decide +kernel
theorem dw_1188 : decode code 1188 = .ok (.aload_n 2, 1) := by decide +kernel
theorem dw_1189 : decode code 1189 = .ok (.invokevirtual 100, 3) := by decide +kernel
theorem dw_1192 : decode code 1192 = .ok (.iload 5, 2) := by decide +kernel
theorem dw_1194 : decode code 1194 = .ok (.if_icmp .eq 5, 3) := by decide +kernel
theorem dw_1197 : decode code 1197 = .ok (.iconst 0, 1) := by decide +kernel
theorem dw_1198 : decode code 1198 = .ok (.ireturn, 1) := by decide +kernel
theorem dw_1199 : decode code 1199 = .ok (.iload 5, 2) := by decide +kernel
theorem dw_1201 : decode code 1201 = .ok (.ifCond .ne 15, 3) := by decide +kernel
theorem dw_1204 : decode code 1204 = .ok (.aload_n 3, 1) := by decide +kernel
theorem dw_1205 : decode code 1205 = .ok (.iconst 0, 1) := by decide +kernel
theorem dw_1206 : decode code 1206 = .ok (.laload, 1) := by decide +kernel
theorem dw_1207 : decode code 1207 = .ok (.iload 6, 2) := by decide +kernel
theorem dw_1209 : decode code 1209 = .ok (.i2l, 1) := by decide +kernel
theorem dw_1210 : decode code 1210 = .ok (.lcmp, 1) := by decide +kernel
theorem dw_1211 : decode code 1211 = .ok (.ifCond .eq 5, 3) := by decide +kernel
theorem dw_1214 : decode code 1214 = .ok (.iconst 0, 1) := by decide +kernel
theorem dw_1215 : decode code 1215 = .ok (.ireturn, 1) := by decide +kernel
theorem dw_1216 : decode code 1216 = .ok (.goto 460, 3) := by decide +kernel
theorem dw_1219 : decode code 1219 = .ok (.aload_n 1, 1) := by decide +kernel
theorem dw_1220 : decode code 1220 = .ok (.aload_n 0, 1) := by decide +kernel
theorem dw_1221 : decode code 1221 = .ok (.iload 4, 2) := by decide +kernel
theorem dw_1223 : decode code 1223 = .ok (.iconst 1, 1) := by decide +kernel
theorem dw_1224 : decode code 1224 = .ok (.iadd, 1) := by decide +kernel
theorem dw_1225 : decode code 1225 = .ok (.iaload, 1) := by decide +kernel
theorem dw_1226 : decode code 1226 = .ok (.aload_n 3, 1) := by decide +kernel
theorem dw_1227 : decode code 1227 = .ok (.invokestatic 158, 3) := by decide +kernel
theorem dw_1230 : decode code 1230 = .ok (.istore 5, 2) := by decide +kernel
theorem dw_1232 : decode code 1232 = .ok (.aload_n 2, 1) := by decide +kernel
theorem dw_1233 : decode code 1233 = .ok (.aload_n 0, 1) := by decide +kernel
theorem dw_1234 : decode code 1234 = .ok (.iload 4, 2) := by decide +kernel
theorem dw_1236 : decode code 1236 = .ok (.iconst 1, 1) := by decide +kernel
theorem dw_1237 : decode code 1237 = .ok (.iadd, 1) := by decide +kernel
theorem dw_1238 : decode code 1238 = .ok (.iaload, 1) := by decide +kernel
theorem dw_1239 : decode code 1239 = .ok (.invokevirtual 160, 3) := by decide +kernel
theorem dw_1242 : decode code 1242 = .ok (.istore 6, 2) := by decide +kernel
theorem dw_1244 : decode code 1244 = .ok (.aload_n 2, 1) := by decide +kernel
theorem dw_1245 : decode code 1245 = .ok (.invokevirtual 100, 3) := by decide +kernel
theorem dw_1248 : decode code 1248 = .ok (.iload 5, 2) := by decide +kernel
theorem dw_1250 : decode code 1250 = .ok (.if_icmp .eq 5, 3) := by decide +kernel
theorem dw_1253 : decode code 1253 = .ok (.iconst 0, 1) := by decide +kernel
theorem dw_1254 : decode code 1254 = .ok (.ireturn, 1) := by decide +kernel
theorem dw_1255 : decode code 1255 = .ok (.iload 5, 2) := by decide +kernel
theorem dw_1257 : decode code 1257 = .ok (.ifCond .ne 15, 3) := by decide +kernel
theorem dw_1260 : decode code 1260 = .ok (.aload_n 3, 1) := by decide +kernel
theorem dw_1261 : decode code 1261 = .ok (.iconst 0, 1) := by decide +kernel
theorem dw_1262 : decode code 1262 = .ok (.laload, 1) := by decide +kernel
theorem dw_1263 : decode code 1263 = .ok (.iload 6, 2) := by decide +kernel
theorem dw_1265 : decode code 1265 = .ok (.i2l, 1) := by decide +kernel
theorem dw_1266 : decode code 1266 = .ok (.lcmp, 1) := by decide +kernel
theorem dw_1267 : decode code 1267 = .ok (.ifCond .eq 5, 3) := by decide +kernel
theorem dw_1270 : decode code 1270 = .ok (.iconst 0, 1) := by decide +kernel
theorem dw_1271 : decode code 1271 = .ok (.ireturn, 1) := by decide +kernel
theorem dw_1272 : decode code 1272 = .ok (.goto 404, 3) := by decide +kernel
theorem dw_1275 : decode code 1275 = .ok (.aload_n 1, 1) := by decide +kernel
theorem dw_1276 : decode code 1276 = .ok (.aload_n 0, 1) := by decide +kernel
theorem dw_1277 : decode code 1277 = .ok (.iload 4, 2) := by decide +kernel
theorem dw_1279 : decode code 1279 = .ok (.iconst 1, 1) := by decide +kernel
theorem dw_1280 : decode code 1280 = .ok (.iadd, 1) := by decide +kernel
theorem dw_1281 : decode code 1281 = .ok (.iaload, 1) := by decide +kernel
theorem dw_1282 : decode code 1282 = .ok (.aload_n 0, 1) := by decide +kernel
theorem dw_1283 : decode code 1283 = .ok (.iload 4, 2) := by decide +kernel
theorem dw_1285 : decode code 1285 = .ok (.iconst 2, 1) := by decide +kernel
theorem dw_1286 : decode code 1286 = .ok (.iadd, 1) := by decide +kernel
theorem dw_1287 : decode code 1287 = .ok (.iaload, 1) := by decide +kernel
theorem dw_1288 : decode code 1288 = .ok (.aload_n 3, 1) := by decide +kernel
theorem dw_1289 : decode code 1289 = .ok (.invokestatic 161, 3) := by decide +kernel
theorem dw_1292 : decode code 1292 = .ok (.istore 5, 2) := by decide +kernel
theorem dw_1294 : decode code 1294 = .ok (.aload_n 2, 1) := by decide +kernel
theorem dw_1295 : decode code 1295 = .ok (.aload_n 0, 1) := by decide +kernel
theorem dw_1296 : decode code 1296 = .ok (.iload 4, 2) := by decide +kernel
theorem dw_1298 : decode code 1298 = .ok (.iconst 1, 1) := by decide +kernel
theorem dw_1299 : decode code 1299 = .ok (.iadd, 1) := by decide +kernel
theorem dw_1300 : decode code 1300 = .ok (.iaload, 1) := by decide +kernel
theorem dw_1301 : decode code 1301 = .ok (.aload_n 0, 1) := by decide +kernel
theorem dw_1302 : decode code 1302 = .ok (.iload 4, 2) := by decide +kernel
theorem dw_1304 : decode code 1304 = .ok (.iconst 2, 1) := by decide +kernel
theorem dw_1305 : decode code 1305 = .ok (.iadd, 1) := by decide +kernel
theorem dw_1306 : decode code 1306 = .ok (.iaload, 1) := by decide +kernel
theorem dw_1307 : decode code 1307 = .ok (.invokevirtual 163, 3) := by decide +kernel
theorem dw_1310 : decode code 1310 = .ok (.istore 6, 2) := by decide +kernel
theorem dw_1312 : decode code 1312 = .ok (.aload_n 2, 1) := by decide +kernel
theorem dw_1313 : decode code 1313 = .ok (.invokevirtual 100, 3) := by decide +kernel
theorem dw_1316 : decode code 1316 = .ok (.iload 5, 2) := by decide +kernel
theorem dw_1318 : decode code 1318 = .ok (.if_icmp .eq 5, 3) := by decide +kernel
theorem dw_1321 : decode code 1321 = .ok (.iconst 0, 1) := by decide +kernel
theorem dw_1322 : decode code 1322 = .ok (.ireturn, 1) := by decide +kernel
theorem dw_1323 : decode code 1323 = .ok (.iload 5, 2) := by decide +kernel
theorem dw_1325 : decode code 1325 = .ok (.ifCond .ne 15, 3) := by decide +kernel
theorem dw_1328 : decode code 1328 = .ok (.aload_n 3, 1) := by decide +kernel
theorem dw_1329 : decode code 1329 = .ok (.iconst 0, 1) := by decide +kernel
theorem dw_1330 : decode code 1330 = .ok (.laload, 1) := by decide +kernel
theorem dw_1331 : decode code 1331 = .ok (.iload 6, 2) := by decide +kernel
theorem dw_1333 : decode code 1333 = .ok (.i2l, 1) := by decide +kernel
theorem dw_1334 : decode code 1334 = .ok (.lcmp, 1) := by decide +kernel
theorem dw_1335 : decode code 1335 = .ok (.ifCond .eq 5, 3) := by decide +kernel
theorem dw_1338 : decode code 1338 = .ok (.iconst 0, 1) := by decide +kernel
theorem dw_1339 : decode code 1339 = .ok (.ireturn, 1) := by decide +kernel
theorem dw_1340 : decode code 1340 = .ok (.goto 336, 3) := by decide +kernel
theorem dw_1343 : decode code 1343 = .ok (.aload_n 1, 1) := by decide +kernel
theorem dw_1344 : decode code 1344 = .ok (.aload_n 0, 1) := by decide +kernel
theorem dw_1345 : decode code 1345 = .ok (.iload 4, 2) := by decide +kernel
theorem dw_1347 : decode code 1347 = .ok (.iconst 1, 1) := by decide +kernel
theorem dw_1348 : decode code 1348 = .ok (.iadd, 1) := by decide +kernel
theorem dw_1349 : decode code 1349 = .ok (.iaload, 1) := by decide +kernel
theorem dw_1350 : decode code 1350 = .ok (.aload_n 3, 1) := by decide +kernel
theorem dw_1351 : decode code 1351 = .ok (.invokestatic 164, 3) := by decide +kernel
theorem dw_1354 : decode code 1354 = .ok (.istore 5, 2) := by decide +kernel
theorem dw_1356 : decode code 1356 = .ok (.aload_n 2, 1) := by decide +kernel
theorem dw_1357 : decode code 1357 = .ok (.aload_n 0, 1) := by decide +kernel
theorem dw_1358 : decode code 1358 = .ok (.iload 4, 2) := by decide +kernel
theorem dw_1360 : decode code 1360 = .ok (.iconst 1, 1) := by decide +kernel
theorem dw_1361 : decode code 1361 = .ok (.iadd, 1) := by decide +kernel
theorem dw_1362 : decode code 1362 = .ok (.iaload, 1) := by decide +kernel
theorem dw_1363 : decode code 1363 = .ok (.invokevirtual 166, 3) := by decide +kernel
theorem dw_1366 : decode code 1366 = .ok (.istore 6, 2) := by decide +kernel
theorem dw_1368 : decode code 1368 = .ok (.aload_n 2, 1) := by decide +kernel
theorem dw_1369 : decode code 1369 = .ok (.invokevirtual 100, 3) := by decide +kernel
theorem dw_1372 : decode code 1372 = .ok (.iload 5, 2) := by decide +kernel
theorem dw_1374 : decode code 1374 = .ok (.if_icmp .eq 5, 3) := by decide +kernel
theorem dw_1377 : decode code 1377 = .ok (.iconst 0, 1) := by decide +kernel
theorem dw_1378 : decode code 1378 = .ok (.ireturn, 1) := by decide +kernel
theorem dw_1379 : decode code 1379 = .ok (.iload 5, 2) := by decide +kernel
theorem dw_1381 : decode code 1381 = .ok (.ifCond .ne 15, 3) := by decide +kernel
theorem dw_1384 : decode code 1384 = .ok (.aload_n 3, 1) := by decide +kernel
theorem dw_1385 : decode code 1385 = .ok (.iconst 0, 1) := by decide +kernel
theorem dw_1386 : decode code 1386 = .ok (.laload, 1) := by decide +kernel
theorem dw_1387 : decode code 1387 = .ok (.iload 6, 2) := by decide +kernel
theorem dw_1389 : decode code 1389 = .ok (.i2l, 1) := by decide +kernel
theorem dw_1390 : decode code 1390 = .ok (.lcmp, 1) := by decide +kernel
theorem dw_1391 : decode code 1391 = .ok (.ifCond .eq 5, 3) := by decide +kernel
theorem dw_1394 : decode code 1394 = .ok (.iconst 0, 1) := by decide +kernel
theorem dw_1395 : decode code 1395 = .ok (.ireturn, 1) := by decide +kernel
theorem dw_1396 : decode code 1396 = .ok (.goto 280, 3) := by decide +kernel
theorem dw_1399 : decode code 1399 = .ok (.aload_n 1, 1) := by decide +kernel
theorem dw_1400 : decode code 1400 = .ok (.aload_n 0, 1) := by decide +kernel
theorem dw_1401 : decode code 1401 = .ok (.iload 4, 2) := by decide +kernel
theorem dw_1403 : decode code 1403 = .ok (.iconst 1, 1) := by decide +kernel
theorem dw_1404 : decode code 1404 = .ok (.iadd, 1) := by decide +kernel
theorem dw_1405 : decode code 1405 = .ok (.iaload, 1) := by decide +kernel
theorem dw_1406 : decode code 1406 = .ok (.aload_n 0, 1) := by decide +kernel
theorem dw_1407 : decode code 1407 = .ok (.iload 4, 2) := by decide +kernel
theorem dw_1409 : decode code 1409 = .ok (.iconst 2, 1) := by decide +kernel
theorem dw_1410 : decode code 1410 = .ok (.iadd, 1) := by decide +kernel
theorem dw_1411 : decode code 1411 = .ok (.iaload, 1) := by decide +kernel
theorem dw_1412 : decode code 1412 = .ok (.aload_n 0, 1) := by decide +kernel
theorem dw_1413 : decode code 1413 = .ok (.iload 4, 2) := by decide +kernel
theorem dw_1415 : decode code 1415 = .ok (.iconst 3, 1) := by decide +kernel
theorem dw_1416 : decode code 1416 = .ok (.iadd, 1) := by decide +kernel
theorem dw_1417 : decode code 1417 = .ok (.iaload, 1) := by decide +kernel
theorem dw_1418 : decode code 1418 = .ok (.aload_n 3, 1) := by decide +kernel
theorem dw_1419 : decode code 1419 = .ok (.invokestatic 167, 3) := by decide +kernel
theorem dw_1422 : decode code 1422 = .ok (.istore 5, 2) := by decide +kernel
theorem dw_1424 : decode code 1424 = .ok (.aload_n 2, 1) := by decide +kernel
theorem dw_1425 : decode code 1425 = .ok (.aload_n 0, 1) := by decide +kernel
theorem dw_1426 : decode code 1426 = .ok (.iload 4, 2) := by decide +kernel
theorem dw_1428 : decode code 1428 = .ok (.iconst 1, 1) := by decide +kernel
theorem dw_1429 : decode code 1429 = .ok (.iadd, 1) := by decide +kernel
theorem dw_1430 : decode code 1430 = .ok (.iaload, 1) := by decide +kernel
theorem dw_1431 : decode code 1431 = .ok (.aload_n 0, 1) := by decide +kernel
theorem dw_1432 : decode code 1432 = .ok (.iload 4, 2) := by decide +kernel
theorem dw_1434 : decode code 1434 = .ok (.iconst 2, 1) := by decide +kernel
theorem dw_1435 : decode code 1435 = .ok (.iadd, 1) := by decide +kernel
theorem dw_1436 : decode code 1436 = .ok (.iaload, 1) := by decide +kernel
theorem dw_1437 : decode code 1437 = .ok (.aload_n 0, 1) := by decide +kernel
theorem dw_1438 : decode code 1438 = .ok (.iload 4, 2) := by decide +kernel
theorem dw_1440 : decode code 1440 = .ok (.iconst 3, 1) := by decide +kernel
theorem dw_1441 : decode code 1441 = .ok (.iadd, 1) := by decide +kernel
theorem dw_1442 : decode code 1442 = .ok (.iaload, 1) := by decide +kernel
theorem dw_1443 : decode code 1443 = .ok (.invokevirtual 170, 3) := by decide +kernel
theorem dw_1446 : decode code 1446 = .ok (.istore 6, 2) := by decide +kernel
theorem dw_1448 : decode code 1448 = .ok (.aload_n 2, 1) := by decide +kernel
theorem dw_1449 : decode code 1449 = .ok (.invokevirtual 100, 3) := by decide +kernel
theorem dw_1452 : decode code 1452 = .ok (.iload 5, 2) := by decide +kernel
theorem dw_1454 : decode code 1454 = .ok (.if_icmp .eq 5, 3) := by decide +kernel
theorem dw_1457 : decode code 1457 = .ok (.iconst 0, 1) := by decide +kernel
theorem dw_1458 : decode code 1458 = .ok (.ireturn, 1) := by decide +kernel
theorem dw_1459 : decode code 1459 = .ok (.iload 5, 2) := by decide +kernel
theorem dw_1461 : decode code 1461 = .ok (.ifCond .ne 15, 3) := by decide +kernel
theorem dw_1464 : decode code 1464 = .ok (.aload_n 3, 1) := by decide +kernel
theorem dw_1465 : decode code 1465 = .ok (.iconst 0, 1) := by decide +kernel
theorem dw_1466 : decode code 1466 = .ok (.laload, 1) := by decide +kernel
theorem dw_1467 : decode code 1467 = .ok (.iload 6, 2) := by decide +kernel
theorem dw_1469 : decode code 1469 = .ok (.i2l, 1) := by decide +kernel
theorem dw_1470 : decode code 1470 = .ok (.lcmp, 1) := by decide +kernel
theorem dw_1471 : decode code 1471 = .ok (.ifCond .eq 5, 3) := by decide +kernel
theorem dw_1474 : decode code 1474 = .ok (.iconst 0, 1) := by decide +kernel
theorem dw_1475 : decode code 1475 = .ok (.ireturn, 1) := by decide +kernel
theorem dw_1476 : decode code 1476 = .ok (.goto 200, 3) := by decide +kernel
theorem dw_1479 : decode code 1479 = .ok (.aload_n 1, 1) := by decide +kernel
theorem dw_1480 : decode code 1480 = .ok (.aload_n 0, 1) := by decide +kernel
theorem dw_1481 : decode code 1481 = .ok (.iload 4, 2) := by decide +kernel
theorem dw_1483 : decode code 1483 = .ok (.iconst 1, 1) := by decide +kernel
theorem dw_1484 : decode code 1484 = .ok (.iadd, 1) := by decide +kernel
theorem dw_1485 : decode code 1485 = .ok (.iaload, 1) := by decide +kernel
theorem dw_1486 : decode code 1486 = .ok (.aload_n 0, 1) := by decide +kernel
theorem dw_1487 : decode code 1487 = .ok (.iload 4, 2) := by decide +kernel
theorem dw_1489 : decode code 1489 = .ok (.iconst 2, 1) := by decide +kernel
theorem dw_1490 : decode code 1490 = .ok (.iadd, 1) := by decide +kernel
theorem dw_1491 : decode code 1491 = .ok (.iaload, 1) := by decide +kernel
theorem dw_1492 : decode code 1492 = .ok (.aload_n 0, 1) := by decide +kernel
theorem dw_1493 : decode code 1493 = .ok (.iload 4, 2) := by decide +kernel
theorem dw_1495 : decode code 1495 = .ok (.iconst 3, 1) := by decide +kernel
theorem dw_1496 : decode code 1496 = .ok (.iadd, 1) := by decide +kernel
theorem dw_1497 : decode code 1497 = .ok (.iaload, 1) := by decide +kernel
theorem dw_1498 : decode code 1498 = .ok (.aload_n 3, 1) := by decide +kernel
theorem dw_1499 : decode code 1499 = .ok (.invokestatic 171, 3) := by decide +kernel
theorem dw_1502 : decode code 1502 = .ok (.istore 5, 2) := by decide +kernel
theorem dw_1504 : decode code 1504 = .ok (.aload_n 2, 1) := by decide +kernel
theorem dw_1505 : decode code 1505 = .ok (.aload_n 0, 1) := by decide +kernel
theorem dw_1506 : decode code 1506 = .ok (.iload 4, 2) := by decide +kernel
theorem dw_1508 : decode code 1508 = .ok (.iconst 1, 1) := by decide +kernel
theorem dw_1509 : decode code 1509 = .ok (.iadd, 1) := by decide +kernel
theorem dw_1510 : decode code 1510 = .ok (.iaload, 1) := by decide +kernel
theorem dw_1511 : decode code 1511 = .ok (.aload_n 0, 1) := by decide +kernel
theorem dw_1512 : decode code 1512 = .ok (.iload 4, 2) := by decide +kernel
theorem dw_1514 : decode code 1514 = .ok (.iconst 2, 1) := by decide +kernel
theorem dw_1515 : decode code 1515 = .ok (.iadd, 1) := by decide +kernel
theorem dw_1516 : decode code 1516 = .ok (.iaload, 1) := by decide +kernel
theorem dw_1517 : decode code 1517 = .ok (.aload_n 0, 1) := by decide +kernel
theorem dw_1518 : decode code 1518 = .ok (.iload 4, 2) := by decide +kernel
theorem dw_1520 : decode code 1520 = .ok (.iconst 3, 1) := by decide +kernel
theorem dw_1521 : decode code 1521 = .ok (.iadd, 1) := by decide +kernel
theorem dw_1522 : decode code 1522 = .ok (.iaload, 1) := by decide +kernel
theorem dw_1523 : decode code 1523 = .ok (.invokevirtual 173, 3) := by decide +kernel
theorem dw_1526 : decode code 1526 = .ok (.istore 6, 2) := by decide +kernel
theorem dw_1528 : decode code 1528 = .ok (.aload_n 2, 1) := by decide +kernel
theorem dw_1529 : decode code 1529 = .ok (.invokevirtual 100, 3) := by decide +kernel
theorem dw_1532 : decode code 1532 = .ok (.iload 5, 2) := by decide +kernel
theorem dw_1534 : decode code 1534 = .ok (.if_icmp .eq 5, 3) := by decide +kernel
theorem dw_1537 : decode code 1537 = .ok (.iconst 0, 1) := by decide +kernel
theorem dw_1538 : decode code 1538 = .ok (.ireturn, 1) := by decide +kernel
theorem dw_1539 : decode code 1539 = .ok (.iload 5, 2) := by decide +kernel
theorem dw_1541 : decode code 1541 = .ok (.ifCond .ne 15, 3) := by decide +kernel
theorem dw_1544 : decode code 1544 = .ok (.aload_n 3, 1) := by decide +kernel
theorem dw_1545 : decode code 1545 = .ok (.iconst 0, 1) := by decide +kernel
theorem dw_1546 : decode code 1546 = .ok (.laload, 1) := by decide +kernel
theorem dw_1547 : decode code 1547 = .ok (.iload 6, 2) := by decide +kernel
theorem dw_1549 : decode code 1549 = .ok (.i2l, 1) := by decide +kernel
theorem dw_1550 : decode code 1550 = .ok (.lcmp, 1) := by decide +kernel
theorem dw_1551 : decode code 1551 = .ok (.ifCond .eq 5, 3) := by decide +kernel
theorem dw_1554 : decode code 1554 = .ok (.iconst 0, 1) := by decide +kernel
theorem dw_1555 : decode code 1555 = .ok (.ireturn, 1) := by decide +kernel
theorem dw_1556 : decode code 1556 = .ok (.goto 120, 3) := by decide +kernel
theorem dw_1559 : decode code 1559 = .ok (.aload_n 1, 1) := by decide +kernel
theorem dw_1560 : decode code 1560 = .ok (.aload_n 0, 1) := by decide +kernel
theorem dw_1561 : decode code 1561 = .ok (.iload 4, 2) := by decide +kernel
theorem dw_1563 : decode code 1563 = .ok (.iconst 1, 1) := by decide +kernel
theorem dw_1564 : decode code 1564 = .ok (.iadd, 1) := by decide +kernel
theorem dw_1565 : decode code 1565 = .ok (.iaload, 1) := by decide +kernel
theorem dw_1566 : decode code 1566 = .ok (.aload_n 0, 1) := by decide +kernel
theorem dw_1567 : decode code 1567 = .ok (.iload 4, 2) := by decide +kernel
theorem dw_1569 : decode code 1569 = .ok (.iconst 2, 1) := by decide +kernel
theorem dw_1570 : decode code 1570 = .ok (.iadd, 1) := by decide +kernel
theorem dw_1571 : decode code 1571 = .ok (.iaload, 1) := by decide +kernel
theorem dw_1572 : decode code 1572 = .ok (.aload_n 0, 1) := by decide +kernel
theorem dw_1573 : decode code 1573 = .ok (.iload 4, 2) := by decide +kernel
theorem dw_1575 : decode code 1575 = .ok (.iconst 3, 1) := by decide +kernel
theorem dw_1576 : decode code 1576 = .ok (.iadd, 1) := by decide +kernel
theorem dw_1577 : decode code 1577 = .ok (.iaload, 1) := by decide +kernel
theorem dw_1578 : decode code 1578 = .ok (.aload_n 0, 1) := by decide +kernel
theorem dw_1579 : decode code 1579 = .ok (.iload 4, 2) := by decide +kernel
theorem dw_1581 : decode code 1581 = .ok (.iconst 4, 1) := by decide +kernel
theorem dw_1582 : decode code 1582 = .ok (.iadd, 1) := by decide +kernel
theorem dw_1583 : decode code 1583 = .ok (.iaload, 1) := by decide +kernel
theorem dw_1584 : decode code 1584 = .ok (.aload_n 0, 1) := by decide +kernel
theorem dw_1585 : decode code 1585 = .ok (.iload 4, 2) := by decide +kernel
theorem dw_1587 : decode code 1587 = .ok (.iconst 5, 1) := by decide +kernel
theorem dw_1588 : decode code 1588 = .ok (.iadd, 1) := by decide +kernel
theorem dw_1589 : decode code 1589 = .ok (.iaload, 1) := by decide +kernel
theorem dw_1590 : decode code 1590 = .ok (.aload_n 3, 1) := by decide +kernel
theorem dw_1591 : decode code 1591 = .ok (.invokestatic 174, 3) := by decide +kernel
theorem dw_1594 : decode code 1594 = .ok (.istore 5, 2) := by decide +kernel
theorem dw_1596 : decode code 1596 = .ok (.aload_n 2, 1) := by decide +kernel
theorem dw_1597 : decode code 1597 = .ok (.aload_n 0, 1) := by decide +kernel
theorem dw_1598 : decode code 1598 = .ok (.iload 4, 2) := by decide +kernel
theorem dw_1600 : decode code 1600 = .ok (.iconst 1, 1) := by decide +kernel
theorem dw_1601 : decode code 1601 = .ok (.iadd, 1) := by decide +kernel
theorem dw_1602 : decode code 1602 = .ok (.iaload, 1) := by decide +kernel
theorem dw_1603 : decode code 1603 = .ok (.aload_n 0, 1) := by decide +kernel
theorem dw_1604 : decode code 1604 = .ok (.iload 4, 2) := by decide +kernel
theorem dw_1606 : decode code 1606 = .ok (.iconst 2, 1) := by decide +kernel
theorem dw_1607 : decode code 1607 = .ok (.iadd, 1) := by decide +kernel
theorem dw_1608 : decode code 1608 = .ok (.iaload, 1) := by decide +kernel
theorem dw_1609 : decode code 1609 = .ok (.aload_n 0, 1) := by decide +kernel
theorem dw_1610 : decode code 1610 = .ok (.iload 4, 2) := by decide +kernel
theorem dw_1612 : decode code 1612 = .ok (.iconst 3, 1) := by decide +kernel
theorem dw_1613 : decode code 1613 = .ok (.iadd, 1) := by decide +kernel
theorem dw_1614 : decode code 1614 = .ok (.iaload, 1) := by decide +kernel
theorem dw_1615 : decode code 1615 = .ok (.aload_n 0, 1) := by decide +kernel
theorem dw_1616 : decode code 1616 = .ok (.iload 4, 2) := by decide +kernel
theorem dw_1618 : decode code 1618 = .ok (.iconst 4, 1) := by decide +kernel
theorem dw_1619 : decode code 1619 = .ok (.iadd, 1) := by decide +kernel
theorem dw_1620 : decode code 1620 = .ok (.iaload, 1) := by decide +kernel
theorem dw_1621 : decode code 1621 = .ok (.aload_n 0, 1) := by decide +kernel
theorem dw_1622 : decode code 1622 = .ok (.iload 4, 2) := by decide +kernel
theorem dw_1624 : decode code 1624 = .ok (.iconst 5, 1) := by decide +kernel
theorem dw_1625 : decode code 1625 = .ok (.iadd, 1) := by decide +kernel
theorem dw_1626 : decode code 1626 = .ok (.iaload, 1) := by decide +kernel
theorem dw_1627 : decode code 1627 = .ok (.invokevirtual 177, 3) := by decide +kernel
theorem dw_1630 : decode code 1630 = .ok (.istore 6, 2) := by decide +kernel
theorem dw_1632 : decode code 1632 = .ok (.aload_n 2, 1) := by decide +kernel
theorem dw_1633 : decode code 1633 = .ok (.invokevirtual 100, 3) := by decide +kernel
theorem dw_1636 : decode code 1636 = .ok (.iload 5, 2) := by decide +kernel
theorem dw_1638 : decode code 1638 = .ok (.if_icmp .eq 5, 3) := by decide +kernel
theorem dw_1641 : decode code 1641 = .ok (.iconst 0, 1) := by decide +kernel
theorem dw_1642 : decode code 1642 = .ok (.ireturn, 1) := by decide +kernel
theorem dw_1643 : decode code 1643 = .ok (.iload 5, 2) := by decide +kernel
theorem dw_1645 : decode code 1645 = .ok (.ifCond .ne 15, 3) := by decide +kernel
theorem dw_1648 : decode code 1648 = .ok (.aload_n 3, 1) := by decide +kernel
theorem dw_1649 : decode code 1649 = .ok (.iconst 0, 1) := by decide +kernel
theorem dw_1650 : decode code 1650 = .ok (.laload, 1) := by decide +kernel
theorem dw_1651 : decode code 1651 = .ok (.iload 6, 2) := by decide +kernel
theorem dw_1653 : decode code 1653 = .ok (.i2l, 1) := by decide +kernel
theorem dw_1654 : decode code 1654 = .ok (.lcmp, 1) := by decide +kernel
theorem dw_1655 : decode code 1655 = .ok (.ifCond .eq 5, 3) := by decide +kernel
theorem dw_1658 : decode code 1658 = .ok (.iconst 0, 1) := by decide +kernel
theorem dw_1659 : decode code 1659 = .ok (.ireturn, 1) := by decide +kernel
theorem dw_1660 : decode code 1660 = .ok (.goto 16, 3) := by decide +kernel
theorem dw_1663 : decode code 1663 = .ok (.aload_n 1, 1) := by decide +kernel
theorem dw_1664 : decode code 1664 = .ok (.invokevirtual 178, 3) := by decide +kernel
theorem dw_1667 : decode code 1667 = .ok (.aload_n 2, 1) := by decide +kernel
theorem dw_1668 : decode code 1668 = .ok (.invokevirtual 181, 3) := by decide +kernel
theorem dw_1671 : decode code 1671 = .ok (.if_icmp .eq 5, 3) := by decide +kernel
theorem dw_1674 : decode code 1674 = .ok (.iconst 0, 1) := by decide +kernel
theorem dw_1675 : decode code 1675 = .ok (.ireturn, 1) := by decide +kernel
theorem dw_1676 : decode code 1676 = .ok (.iinc 4 6, 3) := by decide +kernel
theorem dw_1679 : decode code 1679 = .ok (.goto (-1656), 3) := by decide +kernel
theorem dw_1682 : decode code 1682 = .ok (.iconst 1, 1) := by decide +kernel
theorem dw_1683 : decode code 1683 = .ok (.ireturn, 1) := by decide +kernel
set_option maxHeartbeats 4000000 in
theorem lo_variable {z : wt_Z} {b L : Nat} {xs : Nat → Int32} {j c n : Nat} {s : wt_S} {t : wt_M} {o : Nat → Int64} {rt : Option FieldType} {Q : State → Prop} (am : wt_Am z R_L code 7 60 rt) (lw : jw_L z b L xs) (hj : 6 * j + 6 ≤ L) (hL : L ≤ 3072) (hR : c + 1 ≤ (zz_R z).cells ∧ n + 6 ≤ (zz_R z).slots) (hs : sy_ s t) (kk : ∀ (s2 : wt_S) (t2 : wt_M) (o2 : Nat → Int64), sy_ s2 t2 → jw_J z 1676 (jw_0 z b (nI (6 * j))) [] (c + 1) (n + 6) (s2, t2, o2) Q) : jw_J z 152 (jw_0 z b (nI (6 * j))) [] c n (s, t, o) Q := by
  obtain ⟨k, s2, t2, h1, h2, h3, h4⟩ : ∃ (k : Int32) (s2 : wt_S) (t2 : wt_M), cw_C (zz_v z) yl_variable (Cond.codeWith yl_variable bl_variable 4 (some .int) [(0, 6, 9, 13)]) 25 [.ref (ad_ z 0), .int (xs (6 * j + 1)), .int (xs (6 * j + 2))] k (s, t, o) (s2, t, o) ∧ fm_variable t (xs (6 * j + 1)) (xs (6 * j + 2)) = some t2 ∧ sy_ s2 t2 ∧ t2.1 9 0 = k := by
    rcases sp_variable hs (xs (6 * j + 1)) (xs (6 * j + 2)) with ⟨s2, t2, e1, e2, e3, e4⟩ | ⟨k, t2, e1, e2, e3, e4, e5, e6⟩
    · exact ⟨0, s2, t2, cl_variable t o e1, e2, e3, e4⟩
    · exact ⟨nI k, s, t2, ce_variable t o e1, e2, e3, e4⟩
  have hR0 : c + 1 ≤ (zz_R z).cells ∧ n + 6 ≤ (zz_R z).slots := hR
  refine jw_aload_n (q := 153) am dw_152 rfl 1 rfl rfl ?_
  refine jw_arg (k := 1) (q := 159) am lw hj hL (by decide) (by decide) dw_153 dw_154 dw_156 dw_157 dw_158 rfl rfl rfl ?_
  refine jw_arg (k := 2) (q := 165) am lw hj hL (by decide) (by decide) dw_159 dw_160 dw_162 dw_163 dw_164 rfl rfl rfl ?_
  refine jw_W (q := 168) (n' := 3) (rest := []) (k := k) (w' := (s2, t, o)) [.ref (ad_ z 0), .int (xs (6 * j + 1)), .int (xs (6 * j + 2))] am lw mc_l_variable ml_L_l_variable ms_l_variable mi_L ⟨by decide +kernel, by decide +kernel, by decide +kernel⟩ (by decide) h1 rfl rfl (Nat.le_of_ble_eq_true rfl) dw_165 hR rfl ?_
  refine jw_istore (lv' := (jw_1 z b (nI (6 * j)) k)) (q := 170) am dw_168 [1, 2, 3, 4, 5, 0] rfl rfl rfl ?_
  refine jw_aload_n (q := 171) am dw_170 rfl 2 rfl rfl ?_
  refine jw_arg (k := 1) (q := 177) am lw hj hL (by decide) (by decide) dw_171 dw_172 dw_174 dw_175 dw_176 rfl rfl rfl ?_
  refine jw_arg (k := 2) (q := 183) am lw hj hL (by decide) (by decide) dw_177 dw_178 dw_180 dw_181 dw_182 rfl rfl rfl ?_
  refine jw_V (q := 186) (rest := []) (w' := (s2, t2, o)) (ret' := none) [.int (xs (6 * j + 1)), .int (xs (6 * j + 2))] am lw ln_L_m_variable (ctm_variable s2 o h2) (by decide) (rc_M am) rfl rfl (Nat.le_of_ble_eq_true rfl) dw_183 hR0 rfl ?_
  show jw_J z 186 (jw_1 z b (nI (6 * j)) k) [] (c + 1) (n + 6) (s2, t2, o) Q
  refine jw_aload_n (q := 187) am dw_186 rfl 2 rfl rfl ?_
  refine jw_V (q := 190) (rest := []) (w' := (s2, t2, o)) (ret' := some (.int (t2.1 9 0))) [] am lw ln_L_m_thrown (ctm_thrown s2 o rfl) (by decide) (rc_M am) rfl rfl (Nat.le_of_ble_eq_true rfl) dw_187 hR0 rfl ?_
  show jw_J z 190 (jw_1 z b (nI (6 * j)) k) [.int (t2.1 9 0)] (c + 1) (n + 6) (s2, t2, o) Q
  refine jw_iload (q := 192) am dw_190 5 rfl rfl ?_
  refine jw_icmpT (g := 197) am dw_192 h4 rfl ?_
  refine jw_goto (q := 1676) am dw_197 rfl ?_
  exact jw_sub [0, 1, 2, 3, 4] rfl (kk s2 t2 o h3)
set_option maxHeartbeats 4000000 in
theorem lo_constant {z : wt_Z} {b L : Nat} {xs : Nat → Int32} {j c n : Nat} {s : wt_S} {t : wt_M} {o : Nat → Int64} {rt : Option FieldType} {Q : State → Prop} (am : wt_Am z R_L code 7 60 rt) (lw : jw_L z b L xs) (hj : 6 * j + 6 ≤ L) (hL : L ≤ 3072) (hR : c + 1 ≤ (zz_R z).cells ∧ n + 6 ≤ (zz_R z).slots) (hs : sy_ s t) (kk : ∀ (s2 : wt_S) (t2 : wt_M) (o2 : Nat → Int64), sy_ s2 t2 → jw_J z 1676 (jw_0 z b (nI (6 * j))) [] (c + 1) (n + 6) (s2, t2, o2) Q) : jw_J z 200 (jw_0 z b (nI (6 * j))) [] c n (s, t, o) Q := by
  obtain ⟨k, s2, t2, h1, h2, h3, h4⟩ : ∃ (k : Int32) (s2 : wt_S) (t2 : wt_M), cw_C (zz_v z) yl_constant (Cond.codeWith yl_constant bl_constant 4 (some .int) [(0, 6, 9, 13)]) 25 [.ref (ad_ z 0), .int (xs (6 * j + 1)), .int (nI (jw_b (xs (6 * j + 2))).toNat)] k (s, t, o) (s2, t, o) ∧ fm_constant t (xs (6 * j + 1)) (nI (jw_b (xs (6 * j + 2))).toNat) = some t2 ∧ sy_ s2 t2 ∧ t2.1 9 0 = k := by
    rcases sp_constant hs (xs (6 * j + 1)) (jw_b (xs (6 * j + 2))) with ⟨s2, t2, e1, e2, e3, e4⟩ | ⟨k, t2, e1, e2, e3, e4, e5, e6⟩
    · exact ⟨0, s2, t2, cl_constant t o e1, e2, e3, e4⟩
    · exact ⟨nI k, s, t2, ce_constant t o e1, e2, e3, e4⟩
  have hR0 : c + 1 ≤ (zz_R z).cells ∧ n + 6 ≤ (zz_R z).slots := hR
  refine jw_aload_n (q := 201) am dw_200 rfl 1 rfl rfl ?_
  refine jw_arg (k := 1) (q := 207) am lw hj hL (by decide) (by decide) dw_201 dw_202 dw_204 dw_205 dw_206 rfl rfl rfl ?_
  refine jw_arg (k := 2) (q := 213) am lw hj hL (by decide) (by decide) dw_207 dw_208 dw_210 dw_211 dw_212 rfl rfl rfl ?_
  refine jw_zarg (q := 221) am dw_213 dw_216 dw_217 dw_220 rfl ?_
  refine jw_W (q := 224) (n' := 3) (rest := []) (k := k) (w' := (s2, t, o)) [.ref (ad_ z 0), .int (xs (6 * j + 1)), .int (nI (jw_b (xs (6 * j + 2))).toNat)] am lw mc_l_constant ml_L_l_constant ms_l_constant mi_L ⟨by decide +kernel, by decide +kernel, by decide +kernel⟩ (by decide) h1 rfl rfl (Nat.le_of_ble_eq_true rfl) dw_221 hR rfl ?_
  refine jw_istore (lv' := (jw_1 z b (nI (6 * j)) k)) (q := 226) am dw_224 [1, 2, 3, 4, 5, 0] rfl rfl rfl ?_
  refine jw_aload_n (q := 227) am dw_226 rfl 2 rfl rfl ?_
  refine jw_arg (k := 1) (q := 233) am lw hj hL (by decide) (by decide) dw_227 dw_228 dw_230 dw_231 dw_232 rfl rfl rfl ?_
  refine jw_arg (k := 2) (q := 239) am lw hj hL (by decide) (by decide) dw_233 dw_234 dw_236 dw_237 dw_238 rfl rfl rfl ?_
  refine jw_zarg (q := 247) am dw_239 dw_242 dw_243 dw_246 rfl ?_
  refine jw_V (q := 250) (rest := []) (w' := (s2, t2, o)) (ret' := none) [.int (xs (6 * j + 1)), .int (nI (jw_b (xs (6 * j + 2))).toNat)] am lw ln_L_m_constant (ctm_constant s2 o h2) (by decide) (rc_M am) rfl rfl (Nat.le_of_ble_eq_true rfl) dw_247 hR0 rfl ?_
  show jw_J z 250 (jw_1 z b (nI (6 * j)) k) [] (c + 1) (n + 6) (s2, t2, o) Q
  refine jw_aload_n (q := 251) am dw_250 rfl 2 rfl rfl ?_
  refine jw_V (q := 254) (rest := []) (w' := (s2, t2, o)) (ret' := some (.int (t2.1 9 0))) [] am lw ln_L_m_thrown (ctm_thrown s2 o rfl) (by decide) (rc_M am) rfl rfl (Nat.le_of_ble_eq_true rfl) dw_251 hR0 rfl ?_
  show jw_J z 254 (jw_1 z b (nI (6 * j)) k) [.int (t2.1 9 0)] (c + 1) (n + 6) (s2, t2, o) Q
  refine jw_iload (q := 256) am dw_254 5 rfl rfl ?_
  refine jw_icmpT (g := 261) am dw_256 h4 rfl ?_
  refine jw_goto (q := 1676) am dw_261 rfl ?_
  exact jw_sub [0, 1, 2, 3, 4] rfl (kk s2 t2 o h3)
set_option maxHeartbeats 4000000 in
theorem lo_apply {z : wt_Z} {b L : Nat} {xs : Nat → Int32} {j c n : Nat} {s : wt_S} {t : wt_M} {o : Nat → Int64} {rt : Option FieldType} {Q : State → Prop} (am : wt_Am z R_L code 7 60 rt) (lw : jw_L z b L xs) (hj : 6 * j + 6 ≤ L) (hL : L ≤ 3072) (hR : c + 1 ≤ (zz_R z).cells ∧ n + 6 ≤ (zz_R z).slots) (hs : sy_ s t) (kk : ∀ (s2 : wt_S) (t2 : wt_M) (o2 : Nat → Int64), sy_ s2 t2 → jw_J z 1676 (jw_0 z b (nI (6 * j))) [] (c + 1) (n + 6) (s2, t2, o2) Q) : jw_J z 264 (jw_0 z b (nI (6 * j))) [] c n (s, t, o) Q := by
  obtain ⟨k, s2, t2, h1, h2, h3, h4⟩ : ∃ (k : Int32) (s2 : wt_S) (t2 : wt_M), cw_C (zz_v z) yl_apply (Cond.codeWith yl_apply bl_apply 6 (some .int) [(0, 9, 12, 13), (0, 9, 16, 23)]) 25 [.ref (ad_ z 0), .int (xs (6 * j + 1)), .int (xs (6 * j + 2)), .int (xs (6 * j + 3)), .int (xs (6 * j + 4))] k (s, t, o) (s2, t, o) ∧ fm_apply t (xs (6 * j + 1)) (xs (6 * j + 2)) (xs (6 * j + 3)) (xs (6 * j + 4)) = some t2 ∧ sy_ s2 t2 ∧ t2.1 9 0 = k := by
    rcases sp_apply hs (xs (6 * j + 1)) (xs (6 * j + 2)) (xs (6 * j + 3)) (xs (6 * j + 4)) with ⟨s2, t2, e1, e2, e3, e4⟩ | ⟨k, t2, e1, e2, e3, e4, e5, e6⟩
    · exact ⟨0, s2, t2, cl_apply t o e1, e2, e3, e4⟩
    · exact ⟨nI k, s, t2, ce_apply t o e1, e2, e3, e4⟩
  have hR0 : c + 1 ≤ (zz_R z).cells ∧ n + 6 ≤ (zz_R z).slots := hR
  refine jw_aload_n (q := 265) am dw_264 rfl 1 rfl rfl ?_
  refine jw_arg (k := 1) (q := 271) am lw hj hL (by decide) (by decide) dw_265 dw_266 dw_268 dw_269 dw_270 rfl rfl rfl ?_
  refine jw_arg (k := 2) (q := 277) am lw hj hL (by decide) (by decide) dw_271 dw_272 dw_274 dw_275 dw_276 rfl rfl rfl ?_
  refine jw_arg (k := 3) (q := 283) am lw hj hL (by decide) (by decide) dw_277 dw_278 dw_280 dw_281 dw_282 rfl rfl rfl ?_
  refine jw_arg (k := 4) (q := 289) am lw hj hL (by decide) (by decide) dw_283 dw_284 dw_286 dw_287 dw_288 rfl rfl rfl ?_
  refine jw_W (q := 292) (n' := 5) (rest := []) (k := k) (w' := (s2, t, o)) [.ref (ad_ z 0), .int (xs (6 * j + 1)), .int (xs (6 * j + 2)), .int (xs (6 * j + 3)), .int (xs (6 * j + 4))] am lw mc_l_apply ml_L_l_apply ms_l_apply mi_L ⟨by decide +kernel, by decide +kernel, by decide +kernel⟩ (by decide) h1 rfl rfl (Nat.le_of_ble_eq_true rfl) dw_289 hR rfl ?_
  refine jw_istore (lv' := (jw_1 z b (nI (6 * j)) k)) (q := 294) am dw_292 [1, 2, 3, 4, 5, 0] rfl rfl rfl ?_
  refine jw_aload_n (q := 295) am dw_294 rfl 2 rfl rfl ?_
  refine jw_arg (k := 1) (q := 301) am lw hj hL (by decide) (by decide) dw_295 dw_296 dw_298 dw_299 dw_300 rfl rfl rfl ?_
  refine jw_arg (k := 2) (q := 307) am lw hj hL (by decide) (by decide) dw_301 dw_302 dw_304 dw_305 dw_306 rfl rfl rfl ?_
  refine jw_arg (k := 3) (q := 313) am lw hj hL (by decide) (by decide) dw_307 dw_308 dw_310 dw_311 dw_312 rfl rfl rfl ?_
  refine jw_arg (k := 4) (q := 319) am lw hj hL (by decide) (by decide) dw_313 dw_314 dw_316 dw_317 dw_318 rfl rfl rfl ?_
  refine jw_V (q := 322) (rest := []) (w' := (s2, t2, o)) (ret' := none) [.int (xs (6 * j + 1)), .int (xs (6 * j + 2)), .int (xs (6 * j + 3)), .int (xs (6 * j + 4))] am lw ln_L_m_apply (ctm_apply s2 o h2) (by decide) (rc_M am) rfl rfl (Nat.le_of_ble_eq_true rfl) dw_319 hR0 rfl ?_
  show jw_J z 322 (jw_1 z b (nI (6 * j)) k) [] (c + 1) (n + 6) (s2, t2, o) Q
  refine jw_aload_n (q := 323) am dw_322 rfl 2 rfl rfl ?_
  refine jw_V (q := 326) (rest := []) (w' := (s2, t2, o)) (ret' := some (.int (t2.1 9 0))) [] am lw ln_L_m_thrown (ctm_thrown s2 o rfl) (by decide) (rc_M am) rfl rfl (Nat.le_of_ble_eq_true rfl) dw_323 hR0 rfl ?_
  show jw_J z 326 (jw_1 z b (nI (6 * j)) k) [.int (t2.1 9 0)] (c + 1) (n + 6) (s2, t2, o) Q
  refine jw_iload (q := 328) am dw_326 5 rfl rfl ?_
  refine jw_icmpT (g := 333) am dw_328 h4 rfl ?_
  refine jw_goto (q := 1676) am dw_333 rfl ?_
  exact jw_sub [0, 1, 2, 3, 4] rfl (kk s2 t2 o h3)
set_option maxHeartbeats 4000000 in
theorem lo_choose {z : wt_Z} {b L : Nat} {xs : Nat → Int32} {j c n : Nat} {s : wt_S} {t : wt_M} {o : Nat → Int64} {rt : Option FieldType} {Q : State → Prop} (am : wt_Am z R_L code 7 60 rt) (lw : jw_L z b L xs) (hj : 6 * j + 6 ≤ L) (hL : L ≤ 3072) (hR : c + 1 ≤ (zz_R z).cells ∧ n + 6 ≤ (zz_R z).slots) (hs : sy_ s t) (kk : ∀ (s2 : wt_S) (t2 : wt_M) (o2 : Nat → Int64), sy_ s2 t2 → jw_J z 1676 (jw_0 z b (nI (6 * j))) [] (c + 1) (n + 6) (s2, t2, o2) Q) : jw_J z 336 (jw_0 z b (nI (6 * j))) [] c n (s, t, o) Q := by
  obtain ⟨k, s2, t2, h1, h2, h3, h4⟩ : ∃ (k : Int32) (s2 : wt_S) (t2 : wt_M), cw_C (zz_v z) yl_choose (Cond.codeWith yl_choose bl_choose 6 (some .int) [(0, 9, 12, 13)]) 25 [.ref (ad_ z 0), .int (xs (6 * j + 1)), .int (xs (6 * j + 2)), .int (xs (6 * j + 3)), .int (xs (6 * j + 4))] k (s, t, o) (s2, t, o) ∧ fm_choose t (xs (6 * j + 1)) (xs (6 * j + 2)) (xs (6 * j + 3)) (xs (6 * j + 4)) = some t2 ∧ sy_ s2 t2 ∧ t2.1 9 0 = k := by
    rcases sp_choose hs (xs (6 * j + 1)) (xs (6 * j + 2)) (xs (6 * j + 3)) (xs (6 * j + 4)) with ⟨s2, t2, e1, e2, e3, e4⟩ | ⟨k, t2, e1, e2, e3, e4, e5, e6⟩
    · exact ⟨0, s2, t2, cl_choose t o e1, e2, e3, e4⟩
    · exact ⟨nI k, s, t2, ce_choose t o e1, e2, e3, e4⟩
  have hR0 : c + 1 ≤ (zz_R z).cells ∧ n + 6 ≤ (zz_R z).slots := hR
  refine jw_aload_n (q := 337) am dw_336 rfl 1 rfl rfl ?_
  refine jw_arg (k := 1) (q := 343) am lw hj hL (by decide) (by decide) dw_337 dw_338 dw_340 dw_341 dw_342 rfl rfl rfl ?_
  refine jw_arg (k := 2) (q := 349) am lw hj hL (by decide) (by decide) dw_343 dw_344 dw_346 dw_347 dw_348 rfl rfl rfl ?_
  refine jw_arg (k := 3) (q := 355) am lw hj hL (by decide) (by decide) dw_349 dw_350 dw_352 dw_353 dw_354 rfl rfl rfl ?_
  refine jw_arg (k := 4) (q := 361) am lw hj hL (by decide) (by decide) dw_355 dw_356 dw_358 dw_359 dw_360 rfl rfl rfl ?_
  refine jw_W (q := 364) (n' := 5) (rest := []) (k := k) (w' := (s2, t, o)) [.ref (ad_ z 0), .int (xs (6 * j + 1)), .int (xs (6 * j + 2)), .int (xs (6 * j + 3)), .int (xs (6 * j + 4))] am lw mc_l_choose ml_L_l_choose ms_l_choose mi_L ⟨by decide +kernel, by decide +kernel, by decide +kernel⟩ (by decide) h1 rfl rfl (Nat.le_of_ble_eq_true rfl) dw_361 hR rfl ?_
  refine jw_istore (lv' := (jw_1 z b (nI (6 * j)) k)) (q := 366) am dw_364 [1, 2, 3, 4, 5, 0] rfl rfl rfl ?_
  refine jw_aload_n (q := 367) am dw_366 rfl 2 rfl rfl ?_
  refine jw_arg (k := 1) (q := 373) am lw hj hL (by decide) (by decide) dw_367 dw_368 dw_370 dw_371 dw_372 rfl rfl rfl ?_
  refine jw_arg (k := 2) (q := 379) am lw hj hL (by decide) (by decide) dw_373 dw_374 dw_376 dw_377 dw_378 rfl rfl rfl ?_
  refine jw_arg (k := 3) (q := 385) am lw hj hL (by decide) (by decide) dw_379 dw_380 dw_382 dw_383 dw_384 rfl rfl rfl ?_
  refine jw_arg (k := 4) (q := 391) am lw hj hL (by decide) (by decide) dw_385 dw_386 dw_388 dw_389 dw_390 rfl rfl rfl ?_
  refine jw_V (q := 394) (rest := []) (w' := (s2, t2, o)) (ret' := none) [.int (xs (6 * j + 1)), .int (xs (6 * j + 2)), .int (xs (6 * j + 3)), .int (xs (6 * j + 4))] am lw ln_L_m_choose (ctm_choose s2 o h2) (by decide) (rc_M am) rfl rfl (Nat.le_of_ble_eq_true rfl) dw_391 hR0 rfl ?_
  show jw_J z 394 (jw_1 z b (nI (6 * j)) k) [] (c + 1) (n + 6) (s2, t2, o) Q
  refine jw_aload_n (q := 395) am dw_394 rfl 2 rfl rfl ?_
  refine jw_V (q := 398) (rest := []) (w' := (s2, t2, o)) (ret' := some (.int (t2.1 9 0))) [] am lw ln_L_m_thrown (ctm_thrown s2 o rfl) (by decide) (rc_M am) rfl rfl (Nat.le_of_ble_eq_true rfl) dw_395 hR0 rfl ?_
  show jw_J z 398 (jw_1 z b (nI (6 * j)) k) [.int (t2.1 9 0)] (c + 1) (n + 6) (s2, t2, o) Q
  refine jw_iload (q := 400) am dw_398 5 rfl rfl ?_
  refine jw_icmpT (g := 405) am dw_400 h4 rfl ?_
  refine jw_goto (q := 1676) am dw_405 rfl ?_
  exact jw_sub [0, 1, 2, 3, 4] rfl (kk s2 t2 o h3)
set_option maxHeartbeats 4000000 in
theorem lo_restrict {z : wt_Z} {b L : Nat} {xs : Nat → Int32} {j c n : Nat} {s : wt_S} {t : wt_M} {o : Nat → Int64} {rt : Option FieldType} {Q : State → Prop} (am : wt_Am z R_L code 7 60 rt) (lw : jw_L z b L xs) (hj : 6 * j + 6 ≤ L) (hL : L ≤ 3072) (hR : c + 1 ≤ (zz_R z).cells ∧ n + 6 ≤ (zz_R z).slots) (hs : sy_ s t) (kk : ∀ (s2 : wt_S) (t2 : wt_M) (o2 : Nat → Int64), sy_ s2 t2 → jw_J z 1676 (jw_0 z b (nI (6 * j))) [] (c + 1) (n + 6) (s2, t2, o2) Q) : jw_J z 408 (jw_0 z b (nI (6 * j))) [] c n (s, t, o) Q := by
  obtain ⟨k, s2, t2, h1, h2, h3, h4⟩ : ∃ (k : Int32) (s2 : wt_S) (t2 : wt_M), cw_C (zz_v z) yl_restrict (Cond.codeWith yl_restrict bl_restrict 6 (some .int) [(0, 9, 12, 13)]) 25 [.ref (ad_ z 0), .int (xs (6 * j + 1)), .int (xs (6 * j + 2)), .int (xs (6 * j + 3)), .int (nI (jw_b (xs (6 * j + 4))).toNat)] k (s, t, o) (s2, t, o) ∧ fm_restrict t (xs (6 * j + 1)) (xs (6 * j + 2)) (xs (6 * j + 3)) (nI (jw_b (xs (6 * j + 4))).toNat) = some t2 ∧ sy_ s2 t2 ∧ t2.1 9 0 = k := by
    rcases sp_restrict hs (xs (6 * j + 1)) (xs (6 * j + 2)) (xs (6 * j + 3)) (jw_b (xs (6 * j + 4))) with ⟨s2, t2, e1, e2, e3, e4⟩ | ⟨k, t2, e1, e2, e3, e4, e5, e6⟩
    · exact ⟨0, s2, t2, cl_restrict t o e1, e2, e3, e4⟩
    · exact ⟨nI k, s, t2, ce_restrict t o e1, e2, e3, e4⟩
  have hR0 : c + 1 ≤ (zz_R z).cells ∧ n + 6 ≤ (zz_R z).slots := hR
  refine jw_aload_n (q := 409) am dw_408 rfl 1 rfl rfl ?_
  refine jw_arg (k := 1) (q := 415) am lw hj hL (by decide) (by decide) dw_409 dw_410 dw_412 dw_413 dw_414 rfl rfl rfl ?_
  refine jw_arg (k := 2) (q := 421) am lw hj hL (by decide) (by decide) dw_415 dw_416 dw_418 dw_419 dw_420 rfl rfl rfl ?_
  refine jw_arg (k := 3) (q := 427) am lw hj hL (by decide) (by decide) dw_421 dw_422 dw_424 dw_425 dw_426 rfl rfl rfl ?_
  refine jw_arg (k := 4) (q := 433) am lw hj hL (by decide) (by decide) dw_427 dw_428 dw_430 dw_431 dw_432 rfl rfl rfl ?_
  refine jw_zarg (q := 441) am dw_433 dw_436 dw_437 dw_440 rfl ?_
  refine jw_W (q := 444) (n' := 5) (rest := []) (k := k) (w' := (s2, t, o)) [.ref (ad_ z 0), .int (xs (6 * j + 1)), .int (xs (6 * j + 2)), .int (xs (6 * j + 3)), .int (nI (jw_b (xs (6 * j + 4))).toNat)] am lw mc_l_restrict ml_L_l_restrict ms_l_restrict mi_L ⟨by decide +kernel, by decide +kernel, by decide +kernel⟩ (by decide) h1 rfl rfl (Nat.le_of_ble_eq_true rfl) dw_441 hR rfl ?_
  refine jw_istore (lv' := (jw_1 z b (nI (6 * j)) k)) (q := 446) am dw_444 [1, 2, 3, 4, 5, 0] rfl rfl rfl ?_
  refine jw_aload_n (q := 447) am dw_446 rfl 2 rfl rfl ?_
  refine jw_arg (k := 1) (q := 453) am lw hj hL (by decide) (by decide) dw_447 dw_448 dw_450 dw_451 dw_452 rfl rfl rfl ?_
  refine jw_arg (k := 2) (q := 459) am lw hj hL (by decide) (by decide) dw_453 dw_454 dw_456 dw_457 dw_458 rfl rfl rfl ?_
  refine jw_arg (k := 3) (q := 465) am lw hj hL (by decide) (by decide) dw_459 dw_460 dw_462 dw_463 dw_464 rfl rfl rfl ?_
  refine jw_arg (k := 4) (q := 471) am lw hj hL (by decide) (by decide) dw_465 dw_466 dw_468 dw_469 dw_470 rfl rfl rfl ?_
  refine jw_zarg (q := 479) am dw_471 dw_474 dw_475 dw_478 rfl ?_
  refine jw_V (q := 482) (rest := []) (w' := (s2, t2, o)) (ret' := none) [.int (xs (6 * j + 1)), .int (xs (6 * j + 2)), .int (xs (6 * j + 3)), .int (nI (jw_b (xs (6 * j + 4))).toNat)] am lw ln_L_m_restrict (ctm_restrict s2 o h2) (by decide) (rc_M am) rfl rfl (Nat.le_of_ble_eq_true rfl) dw_479 hR0 rfl ?_
  show jw_J z 482 (jw_1 z b (nI (6 * j)) k) [] (c + 1) (n + 6) (s2, t2, o) Q
  refine jw_aload_n (q := 483) am dw_482 rfl 2 rfl rfl ?_
  refine jw_V (q := 486) (rest := []) (w' := (s2, t2, o)) (ret' := some (.int (t2.1 9 0))) [] am lw ln_L_m_thrown (ctm_thrown s2 o rfl) (by decide) (rc_M am) rfl rfl (Nat.le_of_ble_eq_true rfl) dw_483 hR0 rfl ?_
  show jw_J z 486 (jw_1 z b (nI (6 * j)) k) [.int (t2.1 9 0)] (c + 1) (n + 6) (s2, t2, o) Q
  refine jw_iload (q := 488) am dw_486 5 rfl rfl ?_
  refine jw_icmpT (g := 493) am dw_488 h4 rfl ?_
  refine jw_goto (q := 1676) am dw_493 rfl ?_
  exact jw_sub [0, 1, 2, 3, 4] rfl (kk s2 t2 o h3)
set_option maxHeartbeats 4000000 in
theorem lo_quantify {z : wt_Z} {b L : Nat} {xs : Nat → Int32} {j c n : Nat} {s : wt_S} {t : wt_M} {o : Nat → Int64} {rt : Option FieldType} {Q : State → Prop} (am : wt_Am z R_L code 7 60 rt) (lw : jw_L z b L xs) (hj : 6 * j + 6 ≤ L) (hL : L ≤ 3072) (hR : c + 1 ≤ (zz_R z).cells ∧ n + 6 ≤ (zz_R z).slots) (hs : sy_ s t) (kk : ∀ (s2 : wt_S) (t2 : wt_M) (o2 : Nat → Int64), sy_ s2 t2 → jw_J z 1676 (jw_0 z b (nI (6 * j))) [] (c + 1) (n + 6) (s2, t2, o2) Q) : jw_J z 496 (jw_0 z b (nI (6 * j))) [] c n (s, t, o) Q := by
  obtain ⟨k, s2, t2, h1, h2, h3, h4⟩ : ∃ (k : Int32) (s2 : wt_S) (t2 : wt_M), cw_C (zz_v z) yl_quantify (Cond.codeWith yl_quantify bl_quantify 6 (some .int) [(0, 9, 12, 13), (0, 9, 16, 23)]) 25 [.ref (ad_ z 0), .int (xs (6 * j + 1)), .int (xs (6 * j + 2)), .int (xs (6 * j + 3)), .int (nI (jw_b (xs (6 * j + 4))).toNat)] k (s, t, o) (s2, t, o) ∧ fm_quantify t (xs (6 * j + 1)) (xs (6 * j + 2)) (xs (6 * j + 3)) (nI (jw_b (xs (6 * j + 4))).toNat) = some t2 ∧ sy_ s2 t2 ∧ t2.1 9 0 = k := by
    rcases sp_quantify hs (xs (6 * j + 1)) (xs (6 * j + 2)) (xs (6 * j + 3)) (jw_b (xs (6 * j + 4))) with ⟨s2, t2, e1, e2, e3, e4⟩ | ⟨k, t2, e1, e2, e3, e4, e5, e6⟩
    · exact ⟨0, s2, t2, cl_quantify t o e1, e2, e3, e4⟩
    · exact ⟨nI k, s, t2, ce_quantify t o e1, e2, e3, e4⟩
  have hR0 : c + 1 ≤ (zz_R z).cells ∧ n + 6 ≤ (zz_R z).slots := hR
  refine jw_aload_n (q := 497) am dw_496 rfl 1 rfl rfl ?_
  refine jw_arg (k := 1) (q := 503) am lw hj hL (by decide) (by decide) dw_497 dw_498 dw_500 dw_501 dw_502 rfl rfl rfl ?_
  refine jw_arg (k := 2) (q := 509) am lw hj hL (by decide) (by decide) dw_503 dw_504 dw_506 dw_507 dw_508 rfl rfl rfl ?_
  refine jw_arg (k := 3) (q := 515) am lw hj hL (by decide) (by decide) dw_509 dw_510 dw_512 dw_513 dw_514 rfl rfl rfl ?_
  refine jw_arg (k := 4) (q := 521) am lw hj hL (by decide) (by decide) dw_515 dw_516 dw_518 dw_519 dw_520 rfl rfl rfl ?_
  refine jw_zarg (q := 529) am dw_521 dw_524 dw_525 dw_528 rfl ?_
  refine jw_W (q := 532) (n' := 5) (rest := []) (k := k) (w' := (s2, t, o)) [.ref (ad_ z 0), .int (xs (6 * j + 1)), .int (xs (6 * j + 2)), .int (xs (6 * j + 3)), .int (nI (jw_b (xs (6 * j + 4))).toNat)] am lw mc_l_quantify ml_L_l_quantify ms_l_quantify mi_L ⟨by decide +kernel, by decide +kernel, by decide +kernel⟩ (by decide) h1 rfl rfl (Nat.le_of_ble_eq_true rfl) dw_529 hR rfl ?_
  refine jw_istore (lv' := (jw_1 z b (nI (6 * j)) k)) (q := 534) am dw_532 [1, 2, 3, 4, 5, 0] rfl rfl rfl ?_
  refine jw_aload_n (q := 535) am dw_534 rfl 2 rfl rfl ?_
  refine jw_arg (k := 1) (q := 541) am lw hj hL (by decide) (by decide) dw_535 dw_536 dw_538 dw_539 dw_540 rfl rfl rfl ?_
  refine jw_arg (k := 2) (q := 547) am lw hj hL (by decide) (by decide) dw_541 dw_542 dw_544 dw_545 dw_546 rfl rfl rfl ?_
  refine jw_arg (k := 3) (q := 553) am lw hj hL (by decide) (by decide) dw_547 dw_548 dw_550 dw_551 dw_552 rfl rfl rfl ?_
  refine jw_arg (k := 4) (q := 559) am lw hj hL (by decide) (by decide) dw_553 dw_554 dw_556 dw_557 dw_558 rfl rfl rfl ?_
  refine jw_zarg (q := 567) am dw_559 dw_562 dw_563 dw_566 rfl ?_
  refine jw_V (q := 570) (rest := []) (w' := (s2, t2, o)) (ret' := none) [.int (xs (6 * j + 1)), .int (xs (6 * j + 2)), .int (xs (6 * j + 3)), .int (nI (jw_b (xs (6 * j + 4))).toNat)] am lw ln_L_m_quantify (ctm_quantify s2 o h2) (by decide) (rc_M am) rfl rfl (Nat.le_of_ble_eq_true rfl) dw_567 hR0 rfl ?_
  show jw_J z 570 (jw_1 z b (nI (6 * j)) k) [] (c + 1) (n + 6) (s2, t2, o) Q
  refine jw_aload_n (q := 571) am dw_570 rfl 2 rfl rfl ?_
  refine jw_V (q := 574) (rest := []) (w' := (s2, t2, o)) (ret' := some (.int (t2.1 9 0))) [] am lw ln_L_m_thrown (ctm_thrown s2 o rfl) (by decide) (rc_M am) rfl rfl (Nat.le_of_ble_eq_true rfl) dw_571 hR0 rfl ?_
  show jw_J z 574 (jw_1 z b (nI (6 * j)) k) [.int (t2.1 9 0)] (c + 1) (n + 6) (s2, t2, o) Q
  refine jw_iload (q := 576) am dw_574 5 rfl rfl ?_
  refine jw_icmpT (g := 581) am dw_576 h4 rfl ?_
  refine jw_goto (q := 1676) am dw_581 rfl ?_
  exact jw_sub [0, 1, 2, 3, 4] rfl (kk s2 t2 o h3)
set_option maxHeartbeats 4000000 in
theorem lo_product {z : wt_Z} {b L : Nat} {xs : Nat → Int32} {j c n : Nat} {s : wt_S} {t : wt_M} {o : Nat → Int64} {rt : Option FieldType} {Q : State → Prop} (am : wt_Am z R_L code 7 60 rt) (lw : jw_L z b L xs) (hj : 6 * j + 6 ≤ L) (hL : L ≤ 3072) (hR : c + 1 ≤ (zz_R z).cells ∧ n + 6 ≤ (zz_R z).slots) (hs : sy_ s t) (kk : ∀ (s2 : wt_S) (t2 : wt_M) (o2 : Nat → Int64), sy_ s2 t2 → jw_J z 1676 (jw_0 z b (nI (6 * j))) [] (c + 1) (n + 6) (s2, t2, o2) Q) : jw_J z 584 (jw_0 z b (nI (6 * j))) [] c n (s, t, o) Q := by
  obtain ⟨k, s2, t2, h1, h2, h3, h4⟩ : ∃ (k : Int32) (s2 : wt_S) (t2 : wt_M), cw_C (zz_v z) yl_product (Cond.codeWith yl_product bl_product 6 (some .int) [(0, 9, 12, 13), (0, 9, 16, 23)]) 25 [.ref (ad_ z 0), .int (xs (6 * j + 1)), .int (xs (6 * j + 2)), .int (xs (6 * j + 3)), .int (xs (6 * j + 4))] k (s, t, o) (s2, t, o) ∧ fm_product t (xs (6 * j + 1)) (xs (6 * j + 2)) (xs (6 * j + 3)) (xs (6 * j + 4)) = some t2 ∧ sy_ s2 t2 ∧ t2.1 9 0 = k := by
    rcases sp_product hs (xs (6 * j + 1)) (xs (6 * j + 2)) (xs (6 * j + 3)) (xs (6 * j + 4)) with ⟨s2, t2, e1, e2, e3, e4⟩ | ⟨k, t2, e1, e2, e3, e4, e5, e6⟩
    · exact ⟨0, s2, t2, cl_product t o e1, e2, e3, e4⟩
    · exact ⟨nI k, s, t2, ce_product t o e1, e2, e3, e4⟩
  have hR0 : c + 1 ≤ (zz_R z).cells ∧ n + 6 ≤ (zz_R z).slots := hR
  refine jw_aload_n (q := 585) am dw_584 rfl 1 rfl rfl ?_
  refine jw_arg (k := 1) (q := 591) am lw hj hL (by decide) (by decide) dw_585 dw_586 dw_588 dw_589 dw_590 rfl rfl rfl ?_
  refine jw_arg (k := 2) (q := 597) am lw hj hL (by decide) (by decide) dw_591 dw_592 dw_594 dw_595 dw_596 rfl rfl rfl ?_
  refine jw_arg (k := 3) (q := 603) am lw hj hL (by decide) (by decide) dw_597 dw_598 dw_600 dw_601 dw_602 rfl rfl rfl ?_
  refine jw_arg (k := 4) (q := 609) am lw hj hL (by decide) (by decide) dw_603 dw_604 dw_606 dw_607 dw_608 rfl rfl rfl ?_
  refine jw_W (q := 612) (n' := 5) (rest := []) (k := k) (w' := (s2, t, o)) [.ref (ad_ z 0), .int (xs (6 * j + 1)), .int (xs (6 * j + 2)), .int (xs (6 * j + 3)), .int (xs (6 * j + 4))] am lw mc_l_product ml_L_l_product ms_l_product mi_L ⟨by decide +kernel, by decide +kernel, by decide +kernel⟩ (by decide) h1 rfl rfl (Nat.le_of_ble_eq_true rfl) dw_609 hR rfl ?_
  refine jw_istore (lv' := (jw_1 z b (nI (6 * j)) k)) (q := 614) am dw_612 [1, 2, 3, 4, 5, 0] rfl rfl rfl ?_
  refine jw_aload_n (q := 615) am dw_614 rfl 2 rfl rfl ?_
  refine jw_arg (k := 1) (q := 621) am lw hj hL (by decide) (by decide) dw_615 dw_616 dw_618 dw_619 dw_620 rfl rfl rfl ?_
  refine jw_arg (k := 2) (q := 627) am lw hj hL (by decide) (by decide) dw_621 dw_622 dw_624 dw_625 dw_626 rfl rfl rfl ?_
  refine jw_arg (k := 3) (q := 633) am lw hj hL (by decide) (by decide) dw_627 dw_628 dw_630 dw_631 dw_632 rfl rfl rfl ?_
  refine jw_arg (k := 4) (q := 639) am lw hj hL (by decide) (by decide) dw_633 dw_634 dw_636 dw_637 dw_638 rfl rfl rfl ?_
  refine jw_V (q := 642) (rest := []) (w' := (s2, t2, o)) (ret' := none) [.int (xs (6 * j + 1)), .int (xs (6 * j + 2)), .int (xs (6 * j + 3)), .int (xs (6 * j + 4))] am lw ln_L_m_product (ctm_product s2 o h2) (by decide) (rc_M am) rfl rfl (Nat.le_of_ble_eq_true rfl) dw_639 hR0 rfl ?_
  show jw_J z 642 (jw_1 z b (nI (6 * j)) k) [] (c + 1) (n + 6) (s2, t2, o) Q
  refine jw_aload_n (q := 643) am dw_642 rfl 2 rfl rfl ?_
  refine jw_V (q := 646) (rest := []) (w' := (s2, t2, o)) (ret' := some (.int (t2.1 9 0))) [] am lw ln_L_m_thrown (ctm_thrown s2 o rfl) (by decide) (rc_M am) rfl rfl (Nat.le_of_ble_eq_true rfl) dw_643 hR0 rfl ?_
  show jw_J z 646 (jw_1 z b (nI (6 * j)) k) [.int (t2.1 9 0)] (c + 1) (n + 6) (s2, t2, o) Q
  refine jw_iload (q := 648) am dw_646 5 rfl rfl ?_
  refine jw_icmpT (g := 653) am dw_648 h4 rfl ?_
  refine jw_goto (q := 1676) am dw_653 rfl ?_
  exact jw_sub [0, 1, 2, 3, 4] rfl (kk s2 t2 o h3)
set_option maxHeartbeats 4000000 in
theorem lo_compose {z : wt_Z} {b L : Nat} {xs : Nat → Int32} {j c n : Nat} {s : wt_S} {t : wt_M} {o : Nat → Int64} {rt : Option FieldType} {Q : State → Prop} (am : wt_Am z R_L code 7 60 rt) (lw : jw_L z b L xs) (hj : 6 * j + 6 ≤ L) (hL : L ≤ 3072) (hR : c + 1 ≤ (zz_R z).cells ∧ n + 6 ≤ (zz_R z).slots) (hs : sy_ s t) (kk : ∀ (s2 : wt_S) (t2 : wt_M) (o2 : Nat → Int64), sy_ s2 t2 → jw_J z 1676 (jw_0 z b (nI (6 * j))) [] (c + 1) (n + 6) (s2, t2, o2) Q) : jw_J z 656 (jw_0 z b (nI (6 * j))) [] c n (s, t, o) Q := by
  obtain ⟨k, s2, t2, h1, h2, h3, h4⟩ : ∃ (k : Int32) (s2 : wt_S) (t2 : wt_M), cw_C (zz_v z) yl_compose (Cond.codeWith yl_compose bl_compose 6 (some .int) [(0, 9, 12, 13)]) 25 [.ref (ad_ z 0), .int (xs (6 * j + 1)), .int (xs (6 * j + 2)), .int (xs (6 * j + 3)), .int (xs (6 * j + 4))] k (s, t, o) (s2, t, o) ∧ fm_compose t (xs (6 * j + 1)) (xs (6 * j + 2)) (xs (6 * j + 3)) (xs (6 * j + 4)) = some t2 ∧ sy_ s2 t2 ∧ t2.1 9 0 = k := by
    rcases sp_compose hs (xs (6 * j + 1)) (xs (6 * j + 2)) (xs (6 * j + 3)) (xs (6 * j + 4)) with ⟨s2, t2, e1, e2, e3, e4⟩ | ⟨k, t2, e1, e2, e3, e4, e5, e6⟩
    · exact ⟨0, s2, t2, cl_compose t o e1, e2, e3, e4⟩
    · exact ⟨nI k, s, t2, ce_compose t o e1, e2, e3, e4⟩
  have hR0 : c + 1 ≤ (zz_R z).cells ∧ n + 6 ≤ (zz_R z).slots := hR
  refine jw_aload_n (q := 657) am dw_656 rfl 1 rfl rfl ?_
  refine jw_arg (k := 1) (q := 663) am lw hj hL (by decide) (by decide) dw_657 dw_658 dw_660 dw_661 dw_662 rfl rfl rfl ?_
  refine jw_arg (k := 2) (q := 669) am lw hj hL (by decide) (by decide) dw_663 dw_664 dw_666 dw_667 dw_668 rfl rfl rfl ?_
  refine jw_arg (k := 3) (q := 675) am lw hj hL (by decide) (by decide) dw_669 dw_670 dw_672 dw_673 dw_674 rfl rfl rfl ?_
  refine jw_arg (k := 4) (q := 681) am lw hj hL (by decide) (by decide) dw_675 dw_676 dw_678 dw_679 dw_680 rfl rfl rfl ?_
  refine jw_W (q := 684) (n' := 5) (rest := []) (k := k) (w' := (s2, t, o)) [.ref (ad_ z 0), .int (xs (6 * j + 1)), .int (xs (6 * j + 2)), .int (xs (6 * j + 3)), .int (xs (6 * j + 4))] am lw mc_l_compose ml_L_l_compose ms_l_compose mi_L ⟨by decide +kernel, by decide +kernel, by decide +kernel⟩ (by decide) h1 rfl rfl (Nat.le_of_ble_eq_true rfl) dw_681 hR rfl ?_
  refine jw_istore (lv' := (jw_1 z b (nI (6 * j)) k)) (q := 686) am dw_684 [1, 2, 3, 4, 5, 0] rfl rfl rfl ?_
  refine jw_aload_n (q := 687) am dw_686 rfl 2 rfl rfl ?_
  refine jw_arg (k := 1) (q := 693) am lw hj hL (by decide) (by decide) dw_687 dw_688 dw_690 dw_691 dw_692 rfl rfl rfl ?_
  refine jw_arg (k := 2) (q := 699) am lw hj hL (by decide) (by decide) dw_693 dw_694 dw_696 dw_697 dw_698 rfl rfl rfl ?_
  refine jw_arg (k := 3) (q := 705) am lw hj hL (by decide) (by decide) dw_699 dw_700 dw_702 dw_703 dw_704 rfl rfl rfl ?_
  refine jw_arg (k := 4) (q := 711) am lw hj hL (by decide) (by decide) dw_705 dw_706 dw_708 dw_709 dw_710 rfl rfl rfl ?_
  refine jw_V (q := 714) (rest := []) (w' := (s2, t2, o)) (ret' := none) [.int (xs (6 * j + 1)), .int (xs (6 * j + 2)), .int (xs (6 * j + 3)), .int (xs (6 * j + 4))] am lw ln_L_m_compose (ctm_compose s2 o h2) (by decide) (rc_M am) rfl rfl (Nat.le_of_ble_eq_true rfl) dw_711 hR0 rfl ?_
  show jw_J z 714 (jw_1 z b (nI (6 * j)) k) [] (c + 1) (n + 6) (s2, t2, o) Q
  refine jw_aload_n (q := 715) am dw_714 rfl 2 rfl rfl ?_
  refine jw_V (q := 718) (rest := []) (w' := (s2, t2, o)) (ret' := some (.int (t2.1 9 0))) [] am lw ln_L_m_thrown (ctm_thrown s2 o rfl) (by decide) (rc_M am) rfl rfl (Nat.le_of_ble_eq_true rfl) dw_715 hR0 rfl ?_
  show jw_J z 718 (jw_1 z b (nI (6 * j)) k) [.int (t2.1 9 0)] (c + 1) (n + 6) (s2, t2, o) Q
  refine jw_iload (q := 720) am dw_718 5 rfl rfl ?_
  refine jw_icmpT (g := 725) am dw_720 h4 rfl ?_
  refine jw_goto (q := 1676) am dw_725 rfl ?_
  exact jw_sub [0, 1, 2, 3, 4] rfl (kk s2 t2 o h3)
set_option maxHeartbeats 4000000 in
theorem lo_turn {z : wt_Z} {b L : Nat} {xs : Nat → Int32} {j c n : Nat} {s : wt_S} {t : wt_M} {o : Nat → Int64} {rt : Option FieldType} {Q : State → Prop} (am : wt_Am z R_L code 7 60 rt) (lw : jw_L z b L xs) (hj : 6 * j + 6 ≤ L) (hL : L ≤ 3072) (hR : c + 1 ≤ (zz_R z).cells ∧ n + 6 ≤ (zz_R z).slots) (hs : sy_ s t) (kk : ∀ (s2 : wt_S) (t2 : wt_M) (o2 : Nat → Int64), sy_ s2 t2 → jw_J z 1676 (jw_0 z b (nI (6 * j))) [] (c + 1) (n + 6) (s2, t2, o2) Q) : jw_J z 728 (jw_0 z b (nI (6 * j))) [] c n (s, t, o) Q := by
  obtain ⟨k, s2, t2, h1, h2, h3, h4⟩ : ∃ (k : Int32) (s2 : wt_S) (t2 : wt_M), cw_C (zz_v z) yl_turn (Cond.codeWith yl_turn bl_turn 4 (some .int) [(0, 6, 9, 13)]) 25 [.ref (ad_ z 0), .int (xs (6 * j + 1)), .int (xs (6 * j + 2))] k (s, t, o) (s2, t, o) ∧ fm_turn t (xs (6 * j + 1)) (xs (6 * j + 2)) = some t2 ∧ sy_ s2 t2 ∧ t2.1 9 0 = k := by
    rcases sp_turn hs (xs (6 * j + 1)) (xs (6 * j + 2)) with ⟨s2, t2, e1, e2, e3, e4⟩ | ⟨k, t2, e1, e2, e3, e4, e5, e6⟩
    · exact ⟨0, s2, t2, cl_turn t o e1, e2, e3, e4⟩
    · exact ⟨nI k, s, t2, ce_turn t o e1, e2, e3, e4⟩
  have hR0 : c + 1 ≤ (zz_R z).cells ∧ n + 6 ≤ (zz_R z).slots := hR
  refine jw_aload_n (q := 729) am dw_728 rfl 1 rfl rfl ?_
  refine jw_arg (k := 1) (q := 735) am lw hj hL (by decide) (by decide) dw_729 dw_730 dw_732 dw_733 dw_734 rfl rfl rfl ?_
  refine jw_arg (k := 2) (q := 741) am lw hj hL (by decide) (by decide) dw_735 dw_736 dw_738 dw_739 dw_740 rfl rfl rfl ?_
  refine jw_W (q := 744) (n' := 3) (rest := []) (k := k) (w' := (s2, t, o)) [.ref (ad_ z 0), .int (xs (6 * j + 1)), .int (xs (6 * j + 2))] am lw mc_l_turn ml_L_l_turn ms_l_turn mi_L ⟨by decide +kernel, by decide +kernel, by decide +kernel⟩ (by decide) h1 rfl rfl (Nat.le_of_ble_eq_true rfl) dw_741 hR rfl ?_
  refine jw_istore (lv' := (jw_1 z b (nI (6 * j)) k)) (q := 746) am dw_744 [1, 2, 3, 4, 5, 0] rfl rfl rfl ?_
  refine jw_aload_n (q := 747) am dw_746 rfl 2 rfl rfl ?_
  refine jw_arg (k := 1) (q := 753) am lw hj hL (by decide) (by decide) dw_747 dw_748 dw_750 dw_751 dw_752 rfl rfl rfl ?_
  refine jw_arg (k := 2) (q := 759) am lw hj hL (by decide) (by decide) dw_753 dw_754 dw_756 dw_757 dw_758 rfl rfl rfl ?_
  refine jw_V (q := 762) (rest := []) (w' := (s2, t2, o)) (ret' := none) [.int (xs (6 * j + 1)), .int (xs (6 * j + 2))] am lw ln_L_m_turn (ctm_turn s2 o h2) (by decide) (rc_M am) rfl rfl (Nat.le_of_ble_eq_true rfl) dw_759 hR0 rfl ?_
  show jw_J z 762 (jw_1 z b (nI (6 * j)) k) [] (c + 1) (n + 6) (s2, t2, o) Q
  refine jw_aload_n (q := 763) am dw_762 rfl 2 rfl rfl ?_
  refine jw_V (q := 766) (rest := []) (w' := (s2, t2, o)) (ret' := some (.int (t2.1 9 0))) [] am lw ln_L_m_thrown (ctm_thrown s2 o rfl) (by decide) (rc_M am) rfl rfl (Nat.le_of_ble_eq_true rfl) dw_763 hR0 rfl ?_
  show jw_J z 766 (jw_1 z b (nI (6 * j)) k) [.int (t2.1 9 0)] (c + 1) (n + 6) (s2, t2, o) Q
  refine jw_iload (q := 768) am dw_766 5 rfl rfl ?_
  refine jw_icmpT (g := 773) am dw_768 h4 rfl ?_
  refine jw_goto (q := 1676) am dw_773 rfl ?_
  exact jw_sub [0, 1, 2, 3, 4] rfl (kk s2 t2 o h3)
set_option maxHeartbeats 4000000 in
theorem lo_truth {z : wt_Z} {b L : Nat} {xs : Nat → Int32} {j c n : Nat} {s : wt_S} {t : wt_M} {o : Nat → Int64} {rt : Option FieldType} {Q : State → Prop} (am : wt_Am z R_L code 7 60 rt) (lw : jw_L z b L xs) (hj : 6 * j + 6 ≤ L) (hL : L ≤ 3072) (hR : c + 1 ≤ (zz_R z).cells ∧ n + 6 ≤ (zz_R z).slots) (hs : sy_ s t) (kk : ∀ (s2 : wt_S) (t2 : wt_M) (o2 : Nat → Int64), sy_ s2 t2 → jw_J z 1676 (jw_0 z b (nI (6 * j))) [] (c + 1) (n + 6) (s2, t2, o2) Q) : jw_J z 776 (jw_0 z b (nI (6 * j))) [] c n (s, t, o) Q := by
  obtain ⟨k, x, s2, t2, o2, h1, h2, h3, h4, h5⟩ : ∃ (k x : Int32) (s2 : wt_S) (t2 : wt_M) (o2 : Nat → Int64), cw_C (zz_v z) yl_truth (Cond.codeWith yl_truth bl_truth 5 (some .int) [(0, 17, 20, 13), (0, 17, 24, 23)]) 25 [.ref (ad_ z 0), .int (xs (6 * j + 1)), .int (xs (6 * j + 2)), .ref (ad_ z 21)] k (s, t, o) (s2, t, o2) ∧ fm_truth t (xs (6 * j + 1)) (xs (6 * j + 2)) = some (x, t2) ∧ sy_ s2 t2 ∧ t2.1 9 0 = k ∧ (k = 0 → o2 0 = if x = 0 then 0 else 1) := by
    rcases sp_truth hs (xs (6 * j + 1)) (xs (6 * j + 2)) with ⟨x, t2, e1, e2, e3, e4⟩ | ⟨k, x, t2, e1, e2, e3, e4, e5, e6⟩
    · exact ⟨0, x, s, t2, _, cl_truth t o e1, e2, e3, e4, fun _ => if_pos rfl⟩
    · exact ⟨nI k, x, s, t2, o, ce_truth t o e1, e2, e3, e4, fun e => absurd e (nI_ne0 e5 (by omega))⟩
  have hR0 : c + 1 ≤ (zz_R z).cells ∧ n + 6 ≤ (zz_R z).slots := hR
  refine jw_aload_n (q := 777) am dw_776 rfl 1 rfl rfl ?_
  refine jw_arg (k := 1) (q := 783) am lw hj hL (by decide) (by decide) dw_777 dw_778 dw_780 dw_781 dw_782 rfl rfl rfl ?_
  refine jw_arg (k := 2) (q := 789) am lw hj hL (by decide) (by decide) dw_783 dw_784 dw_786 dw_787 dw_788 rfl rfl rfl ?_
  refine jw_aload_n (q := 790) am dw_789 rfl 3 rfl rfl ?_
  refine jw_W (q := 793) (n' := 4) (rest := []) (k := k) (w' := (s2, t, o2)) [.ref (ad_ z 0), .int (xs (6 * j + 1)), .int (xs (6 * j + 2)), .ref (ad_ z 21)] am lw mc_l_truth ml_L_l_truth ms_l_truth mi_L ⟨by decide +kernel, by decide +kernel, by decide +kernel⟩ (by decide) h1 rfl rfl (Nat.le_of_ble_eq_true rfl) dw_790 hR rfl ?_
  refine jw_istore (lv' := (jw_1 z b (nI (6 * j)) k)) (q := 795) am dw_793 [1, 2, 3, 4, 5, 0] rfl rfl rfl ?_
  refine jw_aload_n (q := 796) am dw_795 rfl 2 rfl rfl ?_
  refine jw_arg (k := 1) (q := 802) am lw hj hL (by decide) (by decide) dw_796 dw_797 dw_799 dw_800 dw_801 rfl rfl rfl ?_
  refine jw_arg (k := 2) (q := 808) am lw hj hL (by decide) (by decide) dw_802 dw_803 dw_805 dw_806 dw_807 rfl rfl rfl ?_
  refine jw_V (q := 811) (rest := []) (w' := (s2, t2, o2)) (ret' := (some (.int x))) [.int (xs (6 * j + 1)), .int (xs (6 * j + 2))] am lw ln_L_m_truth (ctm_truth s2 o2 h2) (by decide) (rc_M am) rfl rfl (Nat.le_of_ble_eq_true rfl) dw_808 hR0 rfl ?_
  show jw_J z 811 (jw_1 z b (nI (6 * j)) k) [.int x] (c + 1) (n + 6) (s2, t2, o2) Q
  refine jw_istore (lv' := (jw_2 z b (nI (6 * j)) k x)) (q := 813) am dw_811 [1, 2, 3, 4, 5, 6, 0] rfl rfl rfl ?_
  refine jw_aload_n (q := 814) am dw_813 rfl 2 rfl rfl ?_
  refine jw_V (q := 817) (rest := []) (w' := (s2, t2, o2)) (ret' := some (.int (t2.1 9 0))) [] am lw ln_L_m_thrown (ctm_thrown s2 o2 rfl) (by decide) (rc_M am) rfl rfl (Nat.le_of_ble_eq_true rfl) dw_814 hR0 rfl ?_
  show jw_J z 817 (jw_2 z b (nI (6 * j)) k x) [.int (t2.1 9 0)] (c + 1) (n + 6) (s2, t2, o2) Q
  refine jw_iload (q := 819) am dw_817 5 rfl rfl ?_
  refine jw_icmpT (g := 824) am dw_819 h4 rfl ?_
  refine jw_iload (q := 826) am dw_824 5 rfl rfl ?_
  by_cases hk : k = 0
  · refine jw_ifneF (g := 848) (q := 829) am dw_826 hk rfl rfl ?_
    refine jw_lald (q := 832) am dw_829 dw_830 dw_831 rfl rfl ?_
    refine jw_iload (q := 834) am dw_832 6 rfl rfl ?_
    refine jw_zlong (q := 842) am dw_834 dw_837 dw_838 dw_841 rfl ?_
    refine jw_lcmpT (g := 848) am dw_842 dw_843 (h5 hk) rfl ?_
    refine jw_goto (q := 1676) am dw_848 rfl ?_
    exact jw_sub [0, 1, 2, 3, 4] rfl (kk s2 t2 o2 h3)
  · refine jw_ifneT (g := 848) am dw_826 hk rfl ?_
    refine jw_goto (q := 1676) am dw_848 rfl ?_
    exact jw_sub [0, 1, 2, 3, 4] rfl (kk s2 t2 o2 h3)
set_option maxHeartbeats 4000000 in
theorem lo_same {z : wt_Z} {b L : Nat} {xs : Nat → Int32} {j c n : Nat} {s : wt_S} {t : wt_M} {o : Nat → Int64} {rt : Option FieldType} {Q : State → Prop} (am : wt_Am z R_L code 7 60 rt) (lw : jw_L z b L xs) (hj : 6 * j + 6 ≤ L) (hL : L ≤ 3072) (hR : c + 1 ≤ (zz_R z).cells ∧ n + 6 ≤ (zz_R z).slots) (hs : sy_ s t) (kk : ∀ (s2 : wt_S) (t2 : wt_M) (o2 : Nat → Int64), sy_ s2 t2 → jw_J z 1676 (jw_0 z b (nI (6 * j))) [] (c + 1) (n + 6) (s2, t2, o2) Q) : jw_J z 851 (jw_0 z b (nI (6 * j))) [] c n (s, t, o) Q := by
  obtain ⟨k, x, s2, t2, o2, h1, h2, h3, h4, h5⟩ : ∃ (k x : Int32) (s2 : wt_S) (t2 : wt_M) (o2 : Nat → Int64), cw_C (zz_v z) yl_same (Cond.codeWith yl_same bl_same 5 (some .int) [(0, 17, 20, 13)]) 25 [.ref (ad_ z 0), .int (xs (6 * j + 1)), .int (xs (6 * j + 2)), .ref (ad_ z 21)] k (s, t, o) (s2, t, o2) ∧ fm_same t (xs (6 * j + 1)) (xs (6 * j + 2)) = some (x, t2) ∧ sy_ s2 t2 ∧ t2.1 9 0 = k ∧ (k = 0 → o2 0 = if x = 0 then 0 else 1) := by
    rcases sp_same hs (xs (6 * j + 1)) (xs (6 * j + 2)) with ⟨x, t2, e1, e2, e3, e4⟩ | ⟨k, x, t2, e1, e2, e3, e4, e5, e6⟩
    · exact ⟨0, x, s, t2, _, cl_same t o e1, e2, e3, e4, fun _ => if_pos rfl⟩
    · exact ⟨nI k, x, s, t2, o, ce_same t o e1, e2, e3, e4, fun e => absurd e (nI_ne0 e5 (by omega))⟩
  have hR0 : c + 1 ≤ (zz_R z).cells ∧ n + 6 ≤ (zz_R z).slots := hR
  refine jw_aload_n (q := 852) am dw_851 rfl 1 rfl rfl ?_
  refine jw_arg (k := 1) (q := 858) am lw hj hL (by decide) (by decide) dw_852 dw_853 dw_855 dw_856 dw_857 rfl rfl rfl ?_
  refine jw_arg (k := 2) (q := 864) am lw hj hL (by decide) (by decide) dw_858 dw_859 dw_861 dw_862 dw_863 rfl rfl rfl ?_
  refine jw_aload_n (q := 865) am dw_864 rfl 3 rfl rfl ?_
  refine jw_W (q := 868) (n' := 4) (rest := []) (k := k) (w' := (s2, t, o2)) [.ref (ad_ z 0), .int (xs (6 * j + 1)), .int (xs (6 * j + 2)), .ref (ad_ z 21)] am lw mc_l_same ml_L_l_same ms_l_same mi_L ⟨by decide +kernel, by decide +kernel, by decide +kernel⟩ (by decide) h1 rfl rfl (Nat.le_of_ble_eq_true rfl) dw_865 hR rfl ?_
  refine jw_istore (lv' := (jw_1 z b (nI (6 * j)) k)) (q := 870) am dw_868 [1, 2, 3, 4, 5, 0] rfl rfl rfl ?_
  refine jw_aload_n (q := 871) am dw_870 rfl 2 rfl rfl ?_
  refine jw_arg (k := 1) (q := 877) am lw hj hL (by decide) (by decide) dw_871 dw_872 dw_874 dw_875 dw_876 rfl rfl rfl ?_
  refine jw_arg (k := 2) (q := 883) am lw hj hL (by decide) (by decide) dw_877 dw_878 dw_880 dw_881 dw_882 rfl rfl rfl ?_
  refine jw_V (q := 886) (rest := []) (w' := (s2, t2, o2)) (ret' := (some (.int x))) [.int (xs (6 * j + 1)), .int (xs (6 * j + 2))] am lw ln_L_m_same (ctm_same s2 o2 h2) (by decide) (rc_M am) rfl rfl (Nat.le_of_ble_eq_true rfl) dw_883 hR0 rfl ?_
  show jw_J z 886 (jw_1 z b (nI (6 * j)) k) [.int x] (c + 1) (n + 6) (s2, t2, o2) Q
  refine jw_istore (lv' := (jw_2 z b (nI (6 * j)) k x)) (q := 888) am dw_886 [1, 2, 3, 4, 5, 6, 0] rfl rfl rfl ?_
  refine jw_aload_n (q := 889) am dw_888 rfl 2 rfl rfl ?_
  refine jw_V (q := 892) (rest := []) (w' := (s2, t2, o2)) (ret' := some (.int (t2.1 9 0))) [] am lw ln_L_m_thrown (ctm_thrown s2 o2 rfl) (by decide) (rc_M am) rfl rfl (Nat.le_of_ble_eq_true rfl) dw_889 hR0 rfl ?_
  show jw_J z 892 (jw_2 z b (nI (6 * j)) k x) [.int (t2.1 9 0)] (c + 1) (n + 6) (s2, t2, o2) Q
  refine jw_iload (q := 894) am dw_892 5 rfl rfl ?_
  refine jw_icmpT (g := 899) am dw_894 h4 rfl ?_
  refine jw_iload (q := 901) am dw_899 5 rfl rfl ?_
  by_cases hk : k = 0
  · refine jw_ifneF (g := 923) (q := 904) am dw_901 hk rfl rfl ?_
    refine jw_lald (q := 907) am dw_904 dw_905 dw_906 rfl rfl ?_
    refine jw_iload (q := 909) am dw_907 6 rfl rfl ?_
    refine jw_zlong (q := 917) am dw_909 dw_912 dw_913 dw_916 rfl ?_
    refine jw_lcmpT (g := 923) am dw_917 dw_918 (h5 hk) rfl ?_
    refine jw_goto (q := 1676) am dw_923 rfl ?_
    exact jw_sub [0, 1, 2, 3, 4] rfl (kk s2 t2 o2 h3)
  · refine jw_ifneT (g := 923) am dw_901 hk rfl ?_
    refine jw_goto (q := 1676) am dw_923 rfl ?_
    exact jw_sub [0, 1, 2, 3, 4] rfl (kk s2 t2 o2 h3)
set_option maxHeartbeats 4000000 in
theorem lo_count {z : wt_Z} {b L : Nat} {xs : Nat → Int32} {j c n : Nat} {s : wt_S} {t : wt_M} {o : Nat → Int64} {rt : Option FieldType} {Q : State → Prop} (am : wt_Am z R_L code 7 60 rt) (lw : jw_L z b L xs) (hj : 6 * j + 6 ≤ L) (hL : L ≤ 3072) (hR : c + 1 ≤ (zz_R z).cells ∧ n + 6 ≤ (zz_R z).slots) (hs : sy_ s t) (kk : ∀ (s2 : wt_S) (t2 : wt_M) (o2 : Nat → Int64), sy_ s2 t2 → jw_J z 1676 (jw_0 z b (nI (6 * j))) [] (c + 1) (n + 6) (s2, t2, o2) Q) : jw_J z 926 (jw_0 z b (nI (6 * j))) [] c n (s, t, o) Q := by
  obtain ⟨k, x, s2, t2, o2, h1, h2, h3, h4, h5⟩ : ∃ (k x : Int32) (s2 : wt_S) (t2 : wt_M) (o2 : Nat → Int64), cw_C (zz_v z) yl_count (Cond.codeWith yl_count bl_count 4 (some .int) [(0, 9, 12, 13)]) 25 [.ref (ad_ z 0), .int (xs (6 * j + 1)), .ref (ad_ z 21)] k (s, t, o) (s2, t, o2) ∧ fm_count t (xs (6 * j + 1)) = some (x, t2) ∧ sy_ s2 t2 ∧ t2.1 9 0 = k ∧ (k = 0 → o2 0 = x.toInt64) := by
    rcases sp_count hs (xs (6 * j + 1)) with ⟨x, t2, e1, e2, e3, e4⟩ | ⟨k, x, t2, e1, e2, e3, e4, e5, e6⟩
    · exact ⟨0, x, s, t2, _, cl_count t o e1, e2, e3, e4, fun _ => if_pos rfl⟩
    · exact ⟨nI k, x, s, t2, o, ce_count t o e1, e2, e3, e4, fun e => absurd e (nI_ne0 e5 (by omega))⟩
  have hR0 : c + 1 ≤ (zz_R z).cells ∧ n + 6 ≤ (zz_R z).slots := hR
  refine jw_aload_n (q := 927) am dw_926 rfl 1 rfl rfl ?_
  refine jw_arg (k := 1) (q := 933) am lw hj hL (by decide) (by decide) dw_927 dw_928 dw_930 dw_931 dw_932 rfl rfl rfl ?_
  refine jw_aload_n (q := 934) am dw_933 rfl 3 rfl rfl ?_
  refine jw_W (q := 937) (n' := 3) (rest := []) (k := k) (w' := (s2, t, o2)) [.ref (ad_ z 0), .int (xs (6 * j + 1)), .ref (ad_ z 21)] am lw mc_l_count ml_L_l_count ms_l_count mi_L ⟨by decide +kernel, by decide +kernel, by decide +kernel⟩ (by decide) h1 rfl rfl (Nat.le_of_ble_eq_true rfl) dw_934 hR rfl ?_
  refine jw_istore (lv' := (jw_1 z b (nI (6 * j)) k)) (q := 939) am dw_937 [1, 2, 3, 4, 5, 0] rfl rfl rfl ?_
  refine jw_aload_n (q := 940) am dw_939 rfl 2 rfl rfl ?_
  refine jw_arg (k := 1) (q := 946) am lw hj hL (by decide) (by decide) dw_940 dw_941 dw_943 dw_944 dw_945 rfl rfl rfl ?_
  refine jw_V (q := 949) (rest := []) (w' := (s2, t2, o2)) (ret' := (some (.int x))) [.int (xs (6 * j + 1))] am lw ln_L_m_count (ctm_count s2 o2 h2) (by decide) (rc_M am) rfl rfl (Nat.le_of_ble_eq_true rfl) dw_946 hR0 rfl ?_
  show jw_J z 949 (jw_1 z b (nI (6 * j)) k) [.int x] (c + 1) (n + 6) (s2, t2, o2) Q
  refine jw_istore (lv' := (jw_2 z b (nI (6 * j)) k x)) (q := 951) am dw_949 [1, 2, 3, 4, 5, 6, 0] rfl rfl rfl ?_
  refine jw_aload_n (q := 952) am dw_951 rfl 2 rfl rfl ?_
  refine jw_V (q := 955) (rest := []) (w' := (s2, t2, o2)) (ret' := some (.int (t2.1 9 0))) [] am lw ln_L_m_thrown (ctm_thrown s2 o2 rfl) (by decide) (rc_M am) rfl rfl (Nat.le_of_ble_eq_true rfl) dw_952 hR0 rfl ?_
  show jw_J z 955 (jw_2 z b (nI (6 * j)) k x) [.int (t2.1 9 0)] (c + 1) (n + 6) (s2, t2, o2) Q
  refine jw_iload (q := 957) am dw_955 5 rfl rfl ?_
  refine jw_icmpT (g := 962) am dw_957 h4 rfl ?_
  refine jw_iload (q := 964) am dw_962 5 rfl rfl ?_
  by_cases hk : k = 0
  · refine jw_ifneF (g := 979) (q := 967) am dw_964 hk rfl rfl ?_
    refine jw_lald (q := 970) am dw_967 dw_968 dw_969 rfl rfl ?_
    refine jw_iload (q := 972) am dw_970 6 rfl rfl ?_
    refine jw_i2l (q := 973) am dw_972 rfl ?_
    refine jw_lcmpT (g := 979) am dw_973 dw_974 (h5 hk) rfl ?_
    refine jw_goto (q := 1676) am dw_979 rfl ?_
    exact jw_sub [0, 1, 2, 3, 4] rfl (kk s2 t2 o2 h3)
  · refine jw_ifneT (g := 979) am dw_964 hk rfl ?_
    refine jw_goto (q := 1676) am dw_979 rfl ?_
    exact jw_sub [0, 1, 2, 3, 4] rfl (kk s2 t2 o2 h3)
set_option maxHeartbeats 4000000 in
theorem lo_least {z : wt_Z} {b L : Nat} {xs : Nat → Int32} {j c n : Nat} {s : wt_S} {t : wt_M} {o : Nat → Int64} {rt : Option FieldType} {Q : State → Prop} (am : wt_Am z R_L code 7 60 rt) (lw : jw_L z b L xs) (hj : 6 * j + 6 ≤ L) (hL : L ≤ 3072) (hR : c + 1 ≤ (zz_R z).cells ∧ n + 6 ≤ (zz_R z).slots) (hs : sy_ s t) (kk : ∀ (s2 : wt_S) (t2 : wt_M) (o2 : Nat → Int64), sy_ s2 t2 → jw_J z 1676 (jw_0 z b (nI (6 * j))) [] (c + 1) (n + 6) (s2, t2, o2) Q) : jw_J z 982 (jw_0 z b (nI (6 * j))) [] c n (s, t, o) Q := by
  obtain ⟨k, x, s2, t2, o2, h1, h2, h3, h4, h5⟩ : ∃ (k x : Int32) (s2 : wt_S) (t2 : wt_M) (o2 : Nat → Int64), cw_C (zz_v z) yl_least (Cond.codeWith yl_least bl_least 4 (some .int) [(0, 9, 12, 13)]) 25 [.ref (ad_ z 0), .int (xs (6 * j + 1)), .ref (ad_ z 21)] k (s, t, o) (s2, t, o2) ∧ fm_least t (xs (6 * j + 1)) = some (x, t2) ∧ sy_ s2 t2 ∧ t2.1 9 0 = k ∧ (k = 0 → o2 0 = x.toInt64) := by
    rcases sp_least hs (xs (6 * j + 1)) with ⟨x, t2, e1, e2, e3, e4⟩ | ⟨k, x, t2, e1, e2, e3, e4, e5, e6⟩
    · exact ⟨0, x, s, t2, _, cl_least t o e1, e2, e3, e4, fun _ => if_pos rfl⟩
    · exact ⟨nI k, x, s, t2, o, ce_least t o e1, e2, e3, e4, fun e => absurd e (nI_ne0 e5 (by omega))⟩
  have hR0 : c + 1 ≤ (zz_R z).cells ∧ n + 6 ≤ (zz_R z).slots := hR
  refine jw_aload_n (q := 983) am dw_982 rfl 1 rfl rfl ?_
  refine jw_arg (k := 1) (q := 989) am lw hj hL (by decide) (by decide) dw_983 dw_984 dw_986 dw_987 dw_988 rfl rfl rfl ?_
  refine jw_aload_n (q := 990) am dw_989 rfl 3 rfl rfl ?_
  refine jw_W (q := 993) (n' := 3) (rest := []) (k := k) (w' := (s2, t, o2)) [.ref (ad_ z 0), .int (xs (6 * j + 1)), .ref (ad_ z 21)] am lw mc_l_least ml_L_l_least ms_l_least mi_L ⟨by decide +kernel, by decide +kernel, by decide +kernel⟩ (by decide) h1 rfl rfl (Nat.le_of_ble_eq_true rfl) dw_990 hR rfl ?_
  refine jw_istore (lv' := (jw_1 z b (nI (6 * j)) k)) (q := 995) am dw_993 [1, 2, 3, 4, 5, 0] rfl rfl rfl ?_
  refine jw_aload_n (q := 996) am dw_995 rfl 2 rfl rfl ?_
  refine jw_arg (k := 1) (q := 1002) am lw hj hL (by decide) (by decide) dw_996 dw_997 dw_999 dw_1000 dw_1001 rfl rfl rfl ?_
  refine jw_V (q := 1005) (rest := []) (w' := (s2, t2, o2)) (ret' := (some (.int x))) [.int (xs (6 * j + 1))] am lw ln_L_m_least (ctm_least s2 o2 h2) (by decide) (rc_M am) rfl rfl (Nat.le_of_ble_eq_true rfl) dw_1002 hR0 rfl ?_
  show jw_J z 1005 (jw_1 z b (nI (6 * j)) k) [.int x] (c + 1) (n + 6) (s2, t2, o2) Q
  refine jw_istore (lv' := (jw_2 z b (nI (6 * j)) k x)) (q := 1007) am dw_1005 [1, 2, 3, 4, 5, 6, 0] rfl rfl rfl ?_
  refine jw_aload_n (q := 1008) am dw_1007 rfl 2 rfl rfl ?_
  refine jw_V (q := 1011) (rest := []) (w' := (s2, t2, o2)) (ret' := some (.int (t2.1 9 0))) [] am lw ln_L_m_thrown (ctm_thrown s2 o2 rfl) (by decide) (rc_M am) rfl rfl (Nat.le_of_ble_eq_true rfl) dw_1008 hR0 rfl ?_
  show jw_J z 1011 (jw_2 z b (nI (6 * j)) k x) [.int (t2.1 9 0)] (c + 1) (n + 6) (s2, t2, o2) Q
  refine jw_iload (q := 1013) am dw_1011 5 rfl rfl ?_
  refine jw_icmpT (g := 1018) am dw_1013 h4 rfl ?_
  refine jw_iload (q := 1020) am dw_1018 5 rfl rfl ?_
  by_cases hk : k = 0
  · refine jw_ifneF (g := 1035) (q := 1023) am dw_1020 hk rfl rfl ?_
    refine jw_lald (q := 1026) am dw_1023 dw_1024 dw_1025 rfl rfl ?_
    refine jw_iload (q := 1028) am dw_1026 6 rfl rfl ?_
    refine jw_i2l (q := 1029) am dw_1028 rfl ?_
    refine jw_lcmpT (g := 1035) am dw_1029 dw_1030 (h5 hk) rfl ?_
    refine jw_goto (q := 1676) am dw_1035 rfl ?_
    exact jw_sub [0, 1, 2, 3, 4] rfl (kk s2 t2 o2 h3)
  · refine jw_ifneT (g := 1035) am dw_1020 hk rfl ?_
    refine jw_goto (q := 1676) am dw_1035 rfl ?_
    exact jw_sub [0, 1, 2, 3, 4] rfl (kk s2 t2 o2 h3)
set_option maxHeartbeats 4000000 in
theorem lo_depends {z : wt_Z} {b L : Nat} {xs : Nat → Int32} {j c n : Nat} {s : wt_S} {t : wt_M} {o : Nat → Int64} {rt : Option FieldType} {Q : State → Prop} (am : wt_Am z R_L code 7 60 rt) (lw : jw_L z b L xs) (hj : 6 * j + 6 ≤ L) (hL : L ≤ 3072) (hR : c + 1 ≤ (zz_R z).cells ∧ n + 6 ≤ (zz_R z).slots) (hs : sy_ s t) (kk : ∀ (s2 : wt_S) (t2 : wt_M) (o2 : Nat → Int64), sy_ s2 t2 → jw_J z 1676 (jw_0 z b (nI (6 * j))) [] (c + 1) (n + 6) (s2, t2, o2) Q) : jw_J z 1038 (jw_0 z b (nI (6 * j))) [] c n (s, t, o) Q := by
  obtain ⟨k, x, s2, t2, o2, h1, h2, h3, h4, h5⟩ : ∃ (k x : Int32) (s2 : wt_S) (t2 : wt_M) (o2 : Nat → Int64), cw_C (zz_v z) yl_depends (Cond.codeWith yl_depends bl_depends 4 (some .int) [(0, 9, 12, 13)]) 25 [.ref (ad_ z 0), .int (xs (6 * j + 1)), .ref (ad_ z 21)] k (s, t, o) (s2, t, o2) ∧ fm_depends t (xs (6 * j + 1)) = some (x, t2) ∧ sy_ s2 t2 ∧ t2.1 9 0 = k ∧ (k = 0 → o2 0 = x.toInt64) := by
    rcases sp_depends hs (xs (6 * j + 1)) with ⟨x, t2, e1, e2, e3, e4⟩ | ⟨k, x, t2, e1, e2, e3, e4, e5, e6⟩
    · exact ⟨0, x, s, t2, _, cl_depends t o e1, e2, e3, e4, fun _ => if_pos rfl⟩
    · exact ⟨nI k, x, s, t2, o, ce_depends t o e1, e2, e3, e4, fun e => absurd e (nI_ne0 e5 (by omega))⟩
  have hR0 : c + 1 ≤ (zz_R z).cells ∧ n + 6 ≤ (zz_R z).slots := hR
  refine jw_aload_n (q := 1039) am dw_1038 rfl 1 rfl rfl ?_
  refine jw_arg (k := 1) (q := 1045) am lw hj hL (by decide) (by decide) dw_1039 dw_1040 dw_1042 dw_1043 dw_1044 rfl rfl rfl ?_
  refine jw_aload_n (q := 1046) am dw_1045 rfl 3 rfl rfl ?_
  refine jw_W (q := 1049) (n' := 3) (rest := []) (k := k) (w' := (s2, t, o2)) [.ref (ad_ z 0), .int (xs (6 * j + 1)), .ref (ad_ z 21)] am lw mc_l_depends ml_L_l_depends ms_l_depends mi_L ⟨by decide +kernel, by decide +kernel, by decide +kernel⟩ (by decide) h1 rfl rfl (Nat.le_of_ble_eq_true rfl) dw_1046 hR rfl ?_
  refine jw_istore (lv' := (jw_1 z b (nI (6 * j)) k)) (q := 1051) am dw_1049 [1, 2, 3, 4, 5, 0] rfl rfl rfl ?_
  refine jw_aload_n (q := 1052) am dw_1051 rfl 2 rfl rfl ?_
  refine jw_arg (k := 1) (q := 1058) am lw hj hL (by decide) (by decide) dw_1052 dw_1053 dw_1055 dw_1056 dw_1057 rfl rfl rfl ?_
  refine jw_V (q := 1061) (rest := []) (w' := (s2, t2, o2)) (ret' := (some (.int x))) [.int (xs (6 * j + 1))] am lw ln_L_m_depends (ctm_depends s2 o2 h2) (by decide) (rc_M am) rfl rfl (Nat.le_of_ble_eq_true rfl) dw_1058 hR0 rfl ?_
  show jw_J z 1061 (jw_1 z b (nI (6 * j)) k) [.int x] (c + 1) (n + 6) (s2, t2, o2) Q
  refine jw_istore (lv' := (jw_2 z b (nI (6 * j)) k x)) (q := 1063) am dw_1061 [1, 2, 3, 4, 5, 6, 0] rfl rfl rfl ?_
  refine jw_aload_n (q := 1064) am dw_1063 rfl 2 rfl rfl ?_
  refine jw_V (q := 1067) (rest := []) (w' := (s2, t2, o2)) (ret' := some (.int (t2.1 9 0))) [] am lw ln_L_m_thrown (ctm_thrown s2 o2 rfl) (by decide) (rc_M am) rfl rfl (Nat.le_of_ble_eq_true rfl) dw_1064 hR0 rfl ?_
  show jw_J z 1067 (jw_2 z b (nI (6 * j)) k x) [.int (t2.1 9 0)] (c + 1) (n + 6) (s2, t2, o2) Q
  refine jw_iload (q := 1069) am dw_1067 5 rfl rfl ?_
  refine jw_icmpT (g := 1074) am dw_1069 h4 rfl ?_
  refine jw_iload (q := 1076) am dw_1074 5 rfl rfl ?_
  by_cases hk : k = 0
  · refine jw_ifneF (g := 1091) (q := 1079) am dw_1076 hk rfl rfl ?_
    refine jw_lald (q := 1082) am dw_1079 dw_1080 dw_1081 rfl rfl ?_
    refine jw_iload (q := 1084) am dw_1082 6 rfl rfl ?_
    refine jw_i2l (q := 1085) am dw_1084 rfl ?_
    refine jw_lcmpT (g := 1091) am dw_1085 dw_1086 (h5 hk) rfl ?_
    refine jw_goto (q := 1676) am dw_1091 rfl ?_
    exact jw_sub [0, 1, 2, 3, 4] rfl (kk s2 t2 o2 h3)
  · refine jw_ifneT (g := 1091) am dw_1076 hk rfl ?_
    refine jw_goto (q := 1676) am dw_1091 rfl ?_
    exact jw_sub [0, 1, 2, 3, 4] rfl (kk s2 t2 o2 h3)
set_option maxHeartbeats 4000000 in
theorem lo_nodes {z : wt_Z} {b L : Nat} {xs : Nat → Int32} {j c n : Nat} {s : wt_S} {t : wt_M} {o : Nat → Int64} {rt : Option FieldType} {Q : State → Prop} (am : wt_Am z R_L code 7 60 rt) (lw : jw_L z b L xs) (hj : 6 * j + 6 ≤ L) (hL : L ≤ 3072) (hR : c + 1 ≤ (zz_R z).cells ∧ n + 6 ≤ (zz_R z).slots) (hs : sy_ s t) (kk : ∀ (s2 : wt_S) (t2 : wt_M) (o2 : Nat → Int64), sy_ s2 t2 → jw_J z 1676 (jw_0 z b (nI (6 * j))) [] (c + 1) (n + 6) (s2, t2, o2) Q) : jw_J z 1094 (jw_0 z b (nI (6 * j))) [] c n (s, t, o) Q := by
  obtain ⟨k, x, s2, t2, o2, h1, h2, h3, h4, h5⟩ : ∃ (k x : Int32) (s2 : wt_S) (t2 : wt_M) (o2 : Nat → Int64), cw_C (zz_v z) yl_nodes (Cond.codeWith yl_nodes bl_nodes 4 (some .int) [(0, 9, 12, 13)]) 25 [.ref (ad_ z 0), .int (xs (6 * j + 1)), .ref (ad_ z 21)] k (s, t, o) (s2, t, o2) ∧ fm_nodes t (xs (6 * j + 1)) = some (x, t2) ∧ sy_ s2 t2 ∧ t2.1 9 0 = k ∧ (k = 0 → o2 0 = x.toInt64) := by
    rcases sp_nodes hs (xs (6 * j + 1)) with ⟨x, s2, t2, e1, e2, e3, e4⟩ | ⟨k, x, t2, e1, e2, e3, e4, e5, e6⟩
    · exact ⟨0, x, s2, t2, _, cl_nodes t o e1, e2, e3, e4, fun _ => if_pos rfl⟩
    · exact ⟨nI k, x, s, t2, o, ce_nodes t o e1, e2, e3, e4, fun e => absurd e (nI_ne0 e5 (by omega))⟩
  have hR0 : c + 1 ≤ (zz_R z).cells ∧ n + 6 ≤ (zz_R z).slots := hR
  refine jw_aload_n (q := 1095) am dw_1094 rfl 1 rfl rfl ?_
  refine jw_arg (k := 1) (q := 1101) am lw hj hL (by decide) (by decide) dw_1095 dw_1096 dw_1098 dw_1099 dw_1100 rfl rfl rfl ?_
  refine jw_aload_n (q := 1102) am dw_1101 rfl 3 rfl rfl ?_
  refine jw_W (q := 1105) (n' := 3) (rest := []) (k := k) (w' := (s2, t, o2)) [.ref (ad_ z 0), .int (xs (6 * j + 1)), .ref (ad_ z 21)] am lw mc_l_nodes ml_L_l_nodes ms_l_nodes mi_L ⟨by decide +kernel, by decide +kernel, by decide +kernel⟩ (by decide) h1 rfl rfl (Nat.le_of_ble_eq_true rfl) dw_1102 hR rfl ?_
  refine jw_istore (lv' := (jw_1 z b (nI (6 * j)) k)) (q := 1107) am dw_1105 [1, 2, 3, 4, 5, 0] rfl rfl rfl ?_
  refine jw_aload_n (q := 1108) am dw_1107 rfl 2 rfl rfl ?_
  refine jw_arg (k := 1) (q := 1114) am lw hj hL (by decide) (by decide) dw_1108 dw_1109 dw_1111 dw_1112 dw_1113 rfl rfl rfl ?_
  refine jw_V (q := 1117) (rest := []) (w' := (s2, t2, o2)) (ret' := (some (.int x))) [.int (xs (6 * j + 1))] am lw ln_L_m_nodes (ctm_nodes s2 o2 h2) (by decide) (rc_M am) rfl rfl (Nat.le_of_ble_eq_true rfl) dw_1114 hR0 rfl ?_
  show jw_J z 1117 (jw_1 z b (nI (6 * j)) k) [.int x] (c + 1) (n + 6) (s2, t2, o2) Q
  refine jw_istore (lv' := (jw_2 z b (nI (6 * j)) k x)) (q := 1119) am dw_1117 [1, 2, 3, 4, 5, 6, 0] rfl rfl rfl ?_
  refine jw_aload_n (q := 1120) am dw_1119 rfl 2 rfl rfl ?_
  refine jw_V (q := 1123) (rest := []) (w' := (s2, t2, o2)) (ret' := some (.int (t2.1 9 0))) [] am lw ln_L_m_thrown (ctm_thrown s2 o2 rfl) (by decide) (rc_M am) rfl rfl (Nat.le_of_ble_eq_true rfl) dw_1120 hR0 rfl ?_
  show jw_J z 1123 (jw_2 z b (nI (6 * j)) k x) [.int (t2.1 9 0)] (c + 1) (n + 6) (s2, t2, o2) Q
  refine jw_iload (q := 1125) am dw_1123 5 rfl rfl ?_
  refine jw_icmpT (g := 1130) am dw_1125 h4 rfl ?_
  refine jw_iload (q := 1132) am dw_1130 5 rfl rfl ?_
  by_cases hk : k = 0
  · refine jw_ifneF (g := 1147) (q := 1135) am dw_1132 hk rfl rfl ?_
    refine jw_lald (q := 1138) am dw_1135 dw_1136 dw_1137 rfl rfl ?_
    refine jw_iload (q := 1140) am dw_1138 6 rfl rfl ?_
    refine jw_i2l (q := 1141) am dw_1140 rfl ?_
    refine jw_lcmpT (g := 1147) am dw_1141 dw_1142 (h5 hk) rfl ?_
    refine jw_goto (q := 1676) am dw_1147 rfl ?_
    exact jw_sub [0, 1, 2, 3, 4] rfl (kk s2 t2 o2 h3)
  · refine jw_ifneT (g := 1147) am dw_1132 hk rfl ?_
    refine jw_goto (q := 1676) am dw_1147 rfl ?_
    exact jw_sub [0, 1, 2, 3, 4] rfl (kk s2 t2 o2 h3)
set_option maxHeartbeats 4000000 in
theorem lo_heap {z : wt_Z} {b L : Nat} {xs : Nat → Int32} {j c n : Nat} {s : wt_S} {t : wt_M} {o : Nat → Int64} {rt : Option FieldType} {Q : State → Prop} (am : wt_Am z R_L code 7 60 rt) (lw : jw_L z b L xs) (hj : 6 * j + 6 ≤ L) (hL : L ≤ 3072) (hR : c + 1 ≤ (zz_R z).cells ∧ n + 6 ≤ (zz_R z).slots) (hs : sy_ s t) (kk : ∀ (s2 : wt_S) (t2 : wt_M) (o2 : Nat → Int64), sy_ s2 t2 → jw_J z 1676 (jw_0 z b (nI (6 * j))) [] (c + 1) (n + 6) (s2, t2, o2) Q) : jw_J z 1150 (jw_0 z b (nI (6 * j))) [] c n (s, t, o) Q := by
  obtain ⟨r, t2, e1, e2, e3, e4⟩ := sh_ok hs
  have hR0 : c ≤ (zz_R z).cells ∧ n ≤ (zz_R z).slots := ⟨by omega, by omega⟩
  refine jw_aload_n (q := 1151) am dw_1150 rfl 1 rfl rfl ?_
  refine jw_V (q := 1154) (rest := []) (w' := (s, t, o)) (ret' := some (.int r)) [] am lw ln_L_x_heap (ctx_heap t o e1) (by decide) (rc_X am) rfl rfl (Nat.le_of_ble_eq_true rfl) dw_1151 hR0 rfl ?_
  show jw_J z 1154 (jw_0 z b (nI (6 * j))) [.int r] c n (s, t, o) Q
  refine jw_aload_n (q := 1155) am dw_1154 rfl 2 rfl rfl ?_
  refine jw_V (q := 1158) (rest := [.int r]) (w' := (s, t2, o)) (ret' := some (.int r)) [] am lw ln_L_m_heap (ctm_heap s o e2) (by decide) (rc_M am) rfl rfl (Nat.le_of_ble_eq_true rfl) dw_1155 hR0 rfl ?_
  show jw_J z 1158 (jw_0 z b (nI (6 * j))) [.int r, .int r] c n (s, t2, o) Q
  refine jw_icmpT (g := 1676) am dw_1158 rfl rfl ?_
  exact jw_wide (by omega) (by omega) (kk s t2 o e3)
set_option maxHeartbeats 4000000 in
theorem lo_order {z : wt_Z} {b L : Nat} {xs : Nat → Int32} {j c n : Nat} {s : wt_S} {t : wt_M} {o : Nat → Int64} {rt : Option FieldType} {Q : State → Prop} (am : wt_Am z R_L code 7 60 rt) (lw : jw_L z b L xs) (hj : 6 * j + 6 ≤ L) (hL : L ≤ 3072) (hR : c + 1 ≤ (zz_R z).cells ∧ n + 6 ≤ (zz_R z).slots) (hs : sy_ s t) (kk : ∀ (s2 : wt_S) (t2 : wt_M) (o2 : Nat → Int64), sy_ s2 t2 → jw_J z 1676 (jw_0 z b (nI (6 * j))) [] (c + 1) (n + 6) (s2, t2, o2) Q) : jw_J z 1163 (jw_0 z b (nI (6 * j))) [] c n (s, t, o) Q := by
  obtain ⟨k, x, s2, t2, o2, h1, h2, h3, h4, h5⟩ : ∃ (k x : Int32) (s2 : wt_S) (t2 : wt_M) (o2 : Nat → Int64), cw_C (zz_v z) yl_order (Cond.codeWith yl_order bl_order 4 (some .int) [(0, 9, 12, 13)]) 25 [.ref (ad_ z 0), .int (xs (6 * j + 1)), .ref (ad_ z 21)] k (s, t, o) (s2, t, o2) ∧ fm_order t (xs (6 * j + 1)) = some (x, t2) ∧ sy_ s2 t2 ∧ t2.1 9 0 = k ∧ (k = 0 → o2 0 = x.toInt64) := by
    rcases sp_order hs (xs (6 * j + 1)) with ⟨x, t2, e1, e2, e3, e4⟩ | ⟨k, x, t2, e1, e2, e3, e4, e5, e6⟩
    · exact ⟨0, x, s, t2, _, cl_order t o e1, e2, e3, e4, fun _ => if_pos rfl⟩
    · exact ⟨nI k, x, s, t2, o, ce_order t o e1, e2, e3, e4, fun e => absurd e (nI_ne0 e5 (by omega))⟩
  have hR0 : c + 1 ≤ (zz_R z).cells ∧ n + 6 ≤ (zz_R z).slots := hR
  refine jw_aload_n (q := 1164) am dw_1163 rfl 1 rfl rfl ?_
  refine jw_arg (k := 1) (q := 1170) am lw hj hL (by decide) (by decide) dw_1164 dw_1165 dw_1167 dw_1168 dw_1169 rfl rfl rfl ?_
  refine jw_aload_n (q := 1171) am dw_1170 rfl 3 rfl rfl ?_
  refine jw_W (q := 1174) (n' := 3) (rest := []) (k := k) (w' := (s2, t, o2)) [.ref (ad_ z 0), .int (xs (6 * j + 1)), .ref (ad_ z 21)] am lw mc_l_order ml_L_l_order ms_l_order mi_L ⟨by decide +kernel, by decide +kernel, by decide +kernel⟩ (by decide) h1 rfl rfl (Nat.le_of_ble_eq_true rfl) dw_1171 hR rfl ?_
  refine jw_istore (lv' := (jw_1 z b (nI (6 * j)) k)) (q := 1176) am dw_1174 [1, 2, 3, 4, 5, 0] rfl rfl rfl ?_
  refine jw_aload_n (q := 1177) am dw_1176 rfl 2 rfl rfl ?_
  refine jw_arg (k := 1) (q := 1183) am lw hj hL (by decide) (by decide) dw_1177 dw_1178 dw_1180 dw_1181 dw_1182 rfl rfl rfl ?_
  refine jw_V (q := 1186) (rest := []) (w' := (s2, t2, o2)) (ret' := (some (.int x))) [.int (xs (6 * j + 1))] am lw ln_L_m_order (ctm_order s2 o2 h2) (by decide) (rc_M am) rfl rfl (Nat.le_of_ble_eq_true rfl) dw_1183 hR0 rfl ?_
  show jw_J z 1186 (jw_1 z b (nI (6 * j)) k) [.int x] (c + 1) (n + 6) (s2, t2, o2) Q
  refine jw_istore (lv' := (jw_2 z b (nI (6 * j)) k x)) (q := 1188) am dw_1186 [1, 2, 3, 4, 5, 6, 0] rfl rfl rfl ?_
  refine jw_aload_n (q := 1189) am dw_1188 rfl 2 rfl rfl ?_
  refine jw_V (q := 1192) (rest := []) (w' := (s2, t2, o2)) (ret' := some (.int (t2.1 9 0))) [] am lw ln_L_m_thrown (ctm_thrown s2 o2 rfl) (by decide) (rc_M am) rfl rfl (Nat.le_of_ble_eq_true rfl) dw_1189 hR0 rfl ?_
  show jw_J z 1192 (jw_2 z b (nI (6 * j)) k x) [.int (t2.1 9 0)] (c + 1) (n + 6) (s2, t2, o2) Q
  refine jw_iload (q := 1194) am dw_1192 5 rfl rfl ?_
  refine jw_icmpT (g := 1199) am dw_1194 h4 rfl ?_
  refine jw_iload (q := 1201) am dw_1199 5 rfl rfl ?_
  by_cases hk : k = 0
  · refine jw_ifneF (g := 1216) (q := 1204) am dw_1201 hk rfl rfl ?_
    refine jw_lald (q := 1207) am dw_1204 dw_1205 dw_1206 rfl rfl ?_
    refine jw_iload (q := 1209) am dw_1207 6 rfl rfl ?_
    refine jw_i2l (q := 1210) am dw_1209 rfl ?_
    refine jw_lcmpT (g := 1216) am dw_1210 dw_1211 (h5 hk) rfl ?_
    refine jw_goto (q := 1676) am dw_1216 rfl ?_
    exact jw_sub [0, 1, 2, 3, 4] rfl (kk s2 t2 o2 h3)
  · refine jw_ifneT (g := 1216) am dw_1201 hk rfl ?_
    refine jw_goto (q := 1676) am dw_1216 rfl ?_
    exact jw_sub [0, 1, 2, 3, 4] rfl (kk s2 t2 o2 h3)
set_option maxHeartbeats 4000000 in
theorem lo_swap {z : wt_Z} {b L : Nat} {xs : Nat → Int32} {j c n : Nat} {s : wt_S} {t : wt_M} {o : Nat → Int64} {rt : Option FieldType} {Q : State → Prop} (am : wt_Am z R_L code 7 60 rt) (lw : jw_L z b L xs) (hj : 6 * j + 6 ≤ L) (hL : L ≤ 3072) (hR : c + 1 ≤ (zz_R z).cells ∧ n + 6 ≤ (zz_R z).slots) (hs : sy_ s t) (kk : ∀ (s2 : wt_S) (t2 : wt_M) (o2 : Nat → Int64), sy_ s2 t2 → jw_J z 1676 (jw_0 z b (nI (6 * j))) [] (c + 1) (n + 6) (s2, t2, o2) Q) : jw_J z 1219 (jw_0 z b (nI (6 * j))) [] c n (s, t, o) Q := by
  obtain ⟨k, x, s2, t2, o2, h1, h2, h3, h4, h5⟩ : ∃ (k x : Int32) (s2 : wt_S) (t2 : wt_M) (o2 : Nat → Int64), cw_C (zz_v z) yl_swap (Cond.codeWith yl_swap bl_swap 4 (some .int) [(0, 9, 12, 13)]) 25 [.ref (ad_ z 0), .int (xs (6 * j + 1)), .ref (ad_ z 21)] k (s, t, o) (s2, t, o2) ∧ fm_swap t (xs (6 * j + 1)) = some (x, t2) ∧ sy_ s2 t2 ∧ t2.1 9 0 = k ∧ (k = 0 → o2 0 = x.toInt64) := by
    rcases sp_swap hs (xs (6 * j + 1)) with ⟨x, s2, t2, e1, e2, e3, e4⟩ | ⟨k, x, t2, e1, e2, e3, e4, e5, e6⟩
    · exact ⟨0, x, s2, t2, _, cl_swap t o e1, e2, e3, e4, fun _ => if_pos rfl⟩
    · exact ⟨nI k, x, s, t2, o, ce_swap t o e1, e2, e3, e4, fun e => absurd e (nI_ne0 e5 (by omega))⟩
  have hR0 : c + 1 ≤ (zz_R z).cells ∧ n + 6 ≤ (zz_R z).slots := hR
  refine jw_aload_n (q := 1220) am dw_1219 rfl 1 rfl rfl ?_
  refine jw_arg (k := 1) (q := 1226) am lw hj hL (by decide) (by decide) dw_1220 dw_1221 dw_1223 dw_1224 dw_1225 rfl rfl rfl ?_
  refine jw_aload_n (q := 1227) am dw_1226 rfl 3 rfl rfl ?_
  refine jw_W (q := 1230) (n' := 3) (rest := []) (k := k) (w' := (s2, t, o2)) [.ref (ad_ z 0), .int (xs (6 * j + 1)), .ref (ad_ z 21)] am lw mc_l_swap ml_L_l_swap ms_l_swap mi_L ⟨by decide +kernel, by decide +kernel, by decide +kernel⟩ (by decide) h1 rfl rfl (Nat.le_of_ble_eq_true rfl) dw_1227 hR rfl ?_
  refine jw_istore (lv' := (jw_1 z b (nI (6 * j)) k)) (q := 1232) am dw_1230 [1, 2, 3, 4, 5, 0] rfl rfl rfl ?_
  refine jw_aload_n (q := 1233) am dw_1232 rfl 2 rfl rfl ?_
  refine jw_arg (k := 1) (q := 1239) am lw hj hL (by decide) (by decide) dw_1233 dw_1234 dw_1236 dw_1237 dw_1238 rfl rfl rfl ?_
  refine jw_V (q := 1242) (rest := []) (w' := (s2, t2, o2)) (ret' := (some (.int x))) [.int (xs (6 * j + 1))] am lw ln_L_m_swap (ctm_swap s2 o2 h2) (by decide) (rc_M am) rfl rfl (Nat.le_of_ble_eq_true rfl) dw_1239 hR0 rfl ?_
  show jw_J z 1242 (jw_1 z b (nI (6 * j)) k) [.int x] (c + 1) (n + 6) (s2, t2, o2) Q
  refine jw_istore (lv' := (jw_2 z b (nI (6 * j)) k x)) (q := 1244) am dw_1242 [1, 2, 3, 4, 5, 6, 0] rfl rfl rfl ?_
  refine jw_aload_n (q := 1245) am dw_1244 rfl 2 rfl rfl ?_
  refine jw_V (q := 1248) (rest := []) (w' := (s2, t2, o2)) (ret' := some (.int (t2.1 9 0))) [] am lw ln_L_m_thrown (ctm_thrown s2 o2 rfl) (by decide) (rc_M am) rfl rfl (Nat.le_of_ble_eq_true rfl) dw_1245 hR0 rfl ?_
  show jw_J z 1248 (jw_2 z b (nI (6 * j)) k x) [.int (t2.1 9 0)] (c + 1) (n + 6) (s2, t2, o2) Q
  refine jw_iload (q := 1250) am dw_1248 5 rfl rfl ?_
  refine jw_icmpT (g := 1255) am dw_1250 h4 rfl ?_
  refine jw_iload (q := 1257) am dw_1255 5 rfl rfl ?_
  by_cases hk : k = 0
  · refine jw_ifneF (g := 1272) (q := 1260) am dw_1257 hk rfl rfl ?_
    refine jw_lald (q := 1263) am dw_1260 dw_1261 dw_1262 rfl rfl ?_
    refine jw_iload (q := 1265) am dw_1263 6 rfl rfl ?_
    refine jw_i2l (q := 1266) am dw_1265 rfl ?_
    refine jw_lcmpT (g := 1272) am dw_1266 dw_1267 (h5 hk) rfl ?_
    refine jw_goto (q := 1676) am dw_1272 rfl ?_
    exact jw_sub [0, 1, 2, 3, 4] rfl (kk s2 t2 o2 h3)
  · refine jw_ifneT (g := 1272) am dw_1257 hk rfl ?_
    refine jw_goto (q := 1676) am dw_1272 rfl ?_
    exact jw_sub [0, 1, 2, 3, 4] rfl (kk s2 t2 o2 h3)
set_option maxHeartbeats 4000000 in
theorem lo_place {z : wt_Z} {b L : Nat} {xs : Nat → Int32} {j c n : Nat} {s : wt_S} {t : wt_M} {o : Nat → Int64} {rt : Option FieldType} {Q : State → Prop} (am : wt_Am z R_L code 7 60 rt) (lw : jw_L z b L xs) (hj : 6 * j + 6 ≤ L) (hL : L ≤ 3072) (hR : c + 1 ≤ (zz_R z).cells ∧ n + 6 ≤ (zz_R z).slots) (hs : sy_ s t) (kk : ∀ (s2 : wt_S) (t2 : wt_M) (o2 : Nat → Int64), sy_ s2 t2 → jw_J z 1676 (jw_0 z b (nI (6 * j))) [] (c + 1) (n + 6) (s2, t2, o2) Q) : jw_J z 1275 (jw_0 z b (nI (6 * j))) [] c n (s, t, o) Q := by
  obtain ⟨k, x, s2, t2, o2, h1, h2, h3, h4, h5⟩ : ∃ (k x : Int32) (s2 : wt_S) (t2 : wt_M) (o2 : Nat → Int64), cw_C (zz_v z) yl_place (Cond.codeWith yl_place bl_place 5 (some .int) [(0, 10, 13, 13)]) 25 [.ref (ad_ z 0), .int (xs (6 * j + 1)), .int (xs (6 * j + 2)), .ref (ad_ z 21)] k (s, t, o) (s2, t, o2) ∧ fm_place t (xs (6 * j + 1)) (xs (6 * j + 2)) = some (x, t2) ∧ sy_ s2 t2 ∧ t2.1 9 0 = k ∧ (k = 0 → o2 0 = x.toInt64) := by
    rcases sp_place hs (xs (6 * j + 1)) (xs (6 * j + 2)) with ⟨x, s2, t2, e1, e2, e3, e4⟩ | ⟨k, x, t2, e1, e2, e3, e4, e5, e6⟩
    · exact ⟨0, x, s2, t2, _, cl_place t o e1, e2, e3, e4, fun _ => if_pos rfl⟩
    · exact ⟨nI k, x, s, t2, o, ce_place t o e1, e2, e3, e4, fun e => absurd e (nI_ne0 e5 (by omega))⟩
  have hR0 : c + 1 ≤ (zz_R z).cells ∧ n + 6 ≤ (zz_R z).slots := hR
  refine jw_aload_n (q := 1276) am dw_1275 rfl 1 rfl rfl ?_
  refine jw_arg (k := 1) (q := 1282) am lw hj hL (by decide) (by decide) dw_1276 dw_1277 dw_1279 dw_1280 dw_1281 rfl rfl rfl ?_
  refine jw_arg (k := 2) (q := 1288) am lw hj hL (by decide) (by decide) dw_1282 dw_1283 dw_1285 dw_1286 dw_1287 rfl rfl rfl ?_
  refine jw_aload_n (q := 1289) am dw_1288 rfl 3 rfl rfl ?_
  refine jw_W (q := 1292) (n' := 4) (rest := []) (k := k) (w' := (s2, t, o2)) [.ref (ad_ z 0), .int (xs (6 * j + 1)), .int (xs (6 * j + 2)), .ref (ad_ z 21)] am lw mc_l_place ml_L_l_place ms_l_place mi_L ⟨by decide +kernel, by decide +kernel, by decide +kernel⟩ (by decide) h1 rfl rfl (Nat.le_of_ble_eq_true rfl) dw_1289 hR rfl ?_
  refine jw_istore (lv' := (jw_1 z b (nI (6 * j)) k)) (q := 1294) am dw_1292 [1, 2, 3, 4, 5, 0] rfl rfl rfl ?_
  refine jw_aload_n (q := 1295) am dw_1294 rfl 2 rfl rfl ?_
  refine jw_arg (k := 1) (q := 1301) am lw hj hL (by decide) (by decide) dw_1295 dw_1296 dw_1298 dw_1299 dw_1300 rfl rfl rfl ?_
  refine jw_arg (k := 2) (q := 1307) am lw hj hL (by decide) (by decide) dw_1301 dw_1302 dw_1304 dw_1305 dw_1306 rfl rfl rfl ?_
  refine jw_V (q := 1310) (rest := []) (w' := (s2, t2, o2)) (ret' := (some (.int x))) [.int (xs (6 * j + 1)), .int (xs (6 * j + 2))] am lw ln_L_m_place (ctm_place s2 o2 h2) (by decide) (rc_M am) rfl rfl (Nat.le_of_ble_eq_true rfl) dw_1307 hR0 rfl ?_
  show jw_J z 1310 (jw_1 z b (nI (6 * j)) k) [.int x] (c + 1) (n + 6) (s2, t2, o2) Q
  refine jw_istore (lv' := (jw_2 z b (nI (6 * j)) k x)) (q := 1312) am dw_1310 [1, 2, 3, 4, 5, 6, 0] rfl rfl rfl ?_
  refine jw_aload_n (q := 1313) am dw_1312 rfl 2 rfl rfl ?_
  refine jw_V (q := 1316) (rest := []) (w' := (s2, t2, o2)) (ret' := some (.int (t2.1 9 0))) [] am lw ln_L_m_thrown (ctm_thrown s2 o2 rfl) (by decide) (rc_M am) rfl rfl (Nat.le_of_ble_eq_true rfl) dw_1313 hR0 rfl ?_
  show jw_J z 1316 (jw_2 z b (nI (6 * j)) k x) [.int (t2.1 9 0)] (c + 1) (n + 6) (s2, t2, o2) Q
  refine jw_iload (q := 1318) am dw_1316 5 rfl rfl ?_
  refine jw_icmpT (g := 1323) am dw_1318 h4 rfl ?_
  refine jw_iload (q := 1325) am dw_1323 5 rfl rfl ?_
  by_cases hk : k = 0
  · refine jw_ifneF (g := 1340) (q := 1328) am dw_1325 hk rfl rfl ?_
    refine jw_lald (q := 1331) am dw_1328 dw_1329 dw_1330 rfl rfl ?_
    refine jw_iload (q := 1333) am dw_1331 6 rfl rfl ?_
    refine jw_i2l (q := 1334) am dw_1333 rfl ?_
    refine jw_lcmpT (g := 1340) am dw_1334 dw_1335 (h5 hk) rfl ?_
    refine jw_goto (q := 1676) am dw_1340 rfl ?_
    exact jw_sub [0, 1, 2, 3, 4] rfl (kk s2 t2 o2 h3)
  · refine jw_ifneT (g := 1340) am dw_1325 hk rfl ?_
    refine jw_goto (q := 1676) am dw_1340 rfl ?_
    exact jw_sub [0, 1, 2, 3, 4] rfl (kk s2 t2 o2 h3)
set_option maxHeartbeats 4000000 in
theorem lo_sift {z : wt_Z} {b L : Nat} {xs : Nat → Int32} {j c n : Nat} {s : wt_S} {t : wt_M} {o : Nat → Int64} {rt : Option FieldType} {Q : State → Prop} (am : wt_Am z R_L code 7 60 rt) (lw : jw_L z b L xs) (hj : 6 * j + 6 ≤ L) (hL : L ≤ 3072) (hR : c + 1 ≤ (zz_R z).cells ∧ n + 6 ≤ (zz_R z).slots) (hs : sy_ s t) (kk : ∀ (s2 : wt_S) (t2 : wt_M) (o2 : Nat → Int64), sy_ s2 t2 → jw_J z 1676 (jw_0 z b (nI (6 * j))) [] (c + 1) (n + 6) (s2, t2, o2) Q) : jw_J z 1343 (jw_0 z b (nI (6 * j))) [] c n (s, t, o) Q := by
  obtain ⟨k, x, s2, t2, o2, h1, h2, h3, h4, h5⟩ : ∃ (k x : Int32) (s2 : wt_S) (t2 : wt_M) (o2 : Nat → Int64), cw_C (zz_v z) yl_sift (Cond.codeWith yl_sift bl_sift 4 (some .int) [(0, 9, 12, 13)]) 25 [.ref (ad_ z 0), .int (xs (6 * j + 1)), .ref (ad_ z 21)] k (s, t, o) (s2, t, o2) ∧ fm_sift t (xs (6 * j + 1)) = some (x, t2) ∧ sy_ s2 t2 ∧ t2.1 9 0 = k ∧ (k = 0 → o2 0 = x.toInt64) := by
    rcases sp_sift hs (xs (6 * j + 1)) with ⟨x, s2, t2, e1, e2, e3, e4⟩ | ⟨k, x, t2, e1, e2, e3, e4, e5, e6⟩
    · exact ⟨0, x, s2, t2, _, cl_sift t o e1, e2, e3, e4, fun _ => if_pos rfl⟩
    · exact ⟨nI k, x, s, t2, o, ce_sift t o e1, e2, e3, e4, fun e => absurd e (nI_ne0 e5 (by omega))⟩
  have hR0 : c + 1 ≤ (zz_R z).cells ∧ n + 6 ≤ (zz_R z).slots := hR
  refine jw_aload_n (q := 1344) am dw_1343 rfl 1 rfl rfl ?_
  refine jw_arg (k := 1) (q := 1350) am lw hj hL (by decide) (by decide) dw_1344 dw_1345 dw_1347 dw_1348 dw_1349 rfl rfl rfl ?_
  refine jw_aload_n (q := 1351) am dw_1350 rfl 3 rfl rfl ?_
  refine jw_W (q := 1354) (n' := 3) (rest := []) (k := k) (w' := (s2, t, o2)) [.ref (ad_ z 0), .int (xs (6 * j + 1)), .ref (ad_ z 21)] am lw mc_l_sift ml_L_l_sift ms_l_sift mi_L ⟨by decide +kernel, by decide +kernel, by decide +kernel⟩ (by decide) h1 rfl rfl (Nat.le_of_ble_eq_true rfl) dw_1351 hR rfl ?_
  refine jw_istore (lv' := (jw_1 z b (nI (6 * j)) k)) (q := 1356) am dw_1354 [1, 2, 3, 4, 5, 0] rfl rfl rfl ?_
  refine jw_aload_n (q := 1357) am dw_1356 rfl 2 rfl rfl ?_
  refine jw_arg (k := 1) (q := 1363) am lw hj hL (by decide) (by decide) dw_1357 dw_1358 dw_1360 dw_1361 dw_1362 rfl rfl rfl ?_
  refine jw_V (q := 1366) (rest := []) (w' := (s2, t2, o2)) (ret' := (some (.int x))) [.int (xs (6 * j + 1))] am lw ln_L_m_sift (ctm_sift s2 o2 h2) (by decide) (rc_M am) rfl rfl (Nat.le_of_ble_eq_true rfl) dw_1363 hR0 rfl ?_
  show jw_J z 1366 (jw_1 z b (nI (6 * j)) k) [.int x] (c + 1) (n + 6) (s2, t2, o2) Q
  refine jw_istore (lv' := (jw_2 z b (nI (6 * j)) k x)) (q := 1368) am dw_1366 [1, 2, 3, 4, 5, 6, 0] rfl rfl rfl ?_
  refine jw_aload_n (q := 1369) am dw_1368 rfl 2 rfl rfl ?_
  refine jw_V (q := 1372) (rest := []) (w' := (s2, t2, o2)) (ret' := some (.int (t2.1 9 0))) [] am lw ln_L_m_thrown (ctm_thrown s2 o2 rfl) (by decide) (rc_M am) rfl rfl (Nat.le_of_ble_eq_true rfl) dw_1369 hR0 rfl ?_
  show jw_J z 1372 (jw_2 z b (nI (6 * j)) k x) [.int (t2.1 9 0)] (c + 1) (n + 6) (s2, t2, o2) Q
  refine jw_iload (q := 1374) am dw_1372 5 rfl rfl ?_
  refine jw_icmpT (g := 1379) am dw_1374 h4 rfl ?_
  refine jw_iload (q := 1381) am dw_1379 5 rfl rfl ?_
  by_cases hk : k = 0
  · refine jw_ifneF (g := 1396) (q := 1384) am dw_1381 hk rfl rfl ?_
    refine jw_lald (q := 1387) am dw_1384 dw_1385 dw_1386 rfl rfl ?_
    refine jw_iload (q := 1389) am dw_1387 6 rfl rfl ?_
    refine jw_i2l (q := 1390) am dw_1389 rfl ?_
    refine jw_lcmpT (g := 1396) am dw_1390 dw_1391 (h5 hk) rfl ?_
    refine jw_goto (q := 1676) am dw_1396 rfl ?_
    exact jw_sub [0, 1, 2, 3, 4] rfl (kk s2 t2 o2 h3)
  · refine jw_ifneT (g := 1396) am dw_1381 hk rfl ?_
    refine jw_goto (q := 1676) am dw_1396 rfl ?_
    exact jw_sub [0, 1, 2, 3, 4] rfl (kk s2 t2 o2 h3)
set_option maxHeartbeats 4000000 in
theorem lo_image {z : wt_Z} {b L : Nat} {xs : Nat → Int32} {j c n : Nat} {s : wt_S} {t : wt_M} {o : Nat → Int64} {rt : Option FieldType} {Q : State → Prop} (am : wt_Am z R_L code 7 60 rt) (lw : jw_L z b L xs) (hj : 6 * j + 6 ≤ L) (hL : L ≤ 3072) (hR : c + 1 ≤ (zz_R z).cells ∧ n + 6 ≤ (zz_R z).slots) (hs : sy_ s t) (kk : ∀ (s2 : wt_S) (t2 : wt_M) (o2 : Nat → Int64), sy_ s2 t2 → jw_J z 1676 (jw_0 z b (nI (6 * j))) [] (c + 1) (n + 6) (s2, t2, o2) Q) : jw_J z 1399 (jw_0 z b (nI (6 * j))) [] c n (s, t, o) Q := by
  obtain ⟨k, x, s2, t2, o2, h1, h2, h3, h4, h5⟩ : ∃ (k x : Int32) (s2 : wt_S) (t2 : wt_M) (o2 : Nat → Int64), cw_C (zz_v z) yl_image (Cond.codeWith yl_image bl_image 6 (some .int) [(0, 12, 15, 13), (0, 12, 19, 81)]) 25 [.ref (ad_ z 0), .int (xs (6 * j + 1)), .int (xs (6 * j + 2)), .int (xs (6 * j + 3)), .ref (ad_ z 21)] k (s, t, o) (s2, t, o2) ∧ fm_image t (xs (6 * j + 1)) (xs (6 * j + 2)) (xs (6 * j + 3)) = some (x, t2) ∧ sy_ s2 t2 ∧ t2.1 9 0 = k ∧ (k = 0 → o2 0 = x.toInt64) := by
    rcases sp_image hs (xs (6 * j + 1)) (xs (6 * j + 2)) (xs (6 * j + 3)) with ⟨x, s2, t2, e1, e2, e3, e4⟩ | ⟨k, x, t2, e1, e2, e3, e4, e5, e6⟩
    · exact ⟨0, x, s2, t2, _, cl_image t o e1, e2, e3, e4, fun _ => if_pos rfl⟩
    · exact ⟨nI k, x, s, t2, o, ce_image t o e1, e2, e3, e4, fun e => absurd e (nI_ne0 e5 (by omega))⟩
  have hR0 : c + 1 ≤ (zz_R z).cells ∧ n + 6 ≤ (zz_R z).slots := hR
  refine jw_aload_n (q := 1400) am dw_1399 rfl 1 rfl rfl ?_
  refine jw_arg (k := 1) (q := 1406) am lw hj hL (by decide) (by decide) dw_1400 dw_1401 dw_1403 dw_1404 dw_1405 rfl rfl rfl ?_
  refine jw_arg (k := 2) (q := 1412) am lw hj hL (by decide) (by decide) dw_1406 dw_1407 dw_1409 dw_1410 dw_1411 rfl rfl rfl ?_
  refine jw_arg (k := 3) (q := 1418) am lw hj hL (by decide) (by decide) dw_1412 dw_1413 dw_1415 dw_1416 dw_1417 rfl rfl rfl ?_
  refine jw_aload_n (q := 1419) am dw_1418 rfl 3 rfl rfl ?_
  refine jw_W (q := 1422) (n' := 5) (rest := []) (k := k) (w' := (s2, t, o2)) [.ref (ad_ z 0), .int (xs (6 * j + 1)), .int (xs (6 * j + 2)), .int (xs (6 * j + 3)), .ref (ad_ z 21)] am lw mc_l_image ml_L_l_image ms_l_image mi_L ⟨by decide +kernel, by decide +kernel, by decide +kernel⟩ (by decide) h1 rfl rfl (Nat.le_of_ble_eq_true rfl) dw_1419 hR rfl ?_
  refine jw_istore (lv' := (jw_1 z b (nI (6 * j)) k)) (q := 1424) am dw_1422 [1, 2, 3, 4, 5, 0] rfl rfl rfl ?_
  refine jw_aload_n (q := 1425) am dw_1424 rfl 2 rfl rfl ?_
  refine jw_arg (k := 1) (q := 1431) am lw hj hL (by decide) (by decide) dw_1425 dw_1426 dw_1428 dw_1429 dw_1430 rfl rfl rfl ?_
  refine jw_arg (k := 2) (q := 1437) am lw hj hL (by decide) (by decide) dw_1431 dw_1432 dw_1434 dw_1435 dw_1436 rfl rfl rfl ?_
  refine jw_arg (k := 3) (q := 1443) am lw hj hL (by decide) (by decide) dw_1437 dw_1438 dw_1440 dw_1441 dw_1442 rfl rfl rfl ?_
  refine jw_V (q := 1446) (rest := []) (w' := (s2, t2, o2)) (ret' := (some (.int x))) [.int (xs (6 * j + 1)), .int (xs (6 * j + 2)), .int (xs (6 * j + 3))] am lw ln_L_m_image (ctm_image s2 o2 h2) (by decide) (rc_M am) rfl rfl (Nat.le_of_ble_eq_true rfl) dw_1443 hR0 rfl ?_
  show jw_J z 1446 (jw_1 z b (nI (6 * j)) k) [.int x] (c + 1) (n + 6) (s2, t2, o2) Q
  refine jw_istore (lv' := (jw_2 z b (nI (6 * j)) k x)) (q := 1448) am dw_1446 [1, 2, 3, 4, 5, 6, 0] rfl rfl rfl ?_
  refine jw_aload_n (q := 1449) am dw_1448 rfl 2 rfl rfl ?_
  refine jw_V (q := 1452) (rest := []) (w' := (s2, t2, o2)) (ret' := some (.int (t2.1 9 0))) [] am lw ln_L_m_thrown (ctm_thrown s2 o2 rfl) (by decide) (rc_M am) rfl rfl (Nat.le_of_ble_eq_true rfl) dw_1449 hR0 rfl ?_
  show jw_J z 1452 (jw_2 z b (nI (6 * j)) k x) [.int (t2.1 9 0)] (c + 1) (n + 6) (s2, t2, o2) Q
  refine jw_iload (q := 1454) am dw_1452 5 rfl rfl ?_
  refine jw_icmpT (g := 1459) am dw_1454 h4 rfl ?_
  refine jw_iload (q := 1461) am dw_1459 5 rfl rfl ?_
  by_cases hk : k = 0
  · refine jw_ifneF (g := 1476) (q := 1464) am dw_1461 hk rfl rfl ?_
    refine jw_lald (q := 1467) am dw_1464 dw_1465 dw_1466 rfl rfl ?_
    refine jw_iload (q := 1469) am dw_1467 6 rfl rfl ?_
    refine jw_i2l (q := 1470) am dw_1469 rfl ?_
    refine jw_lcmpT (g := 1476) am dw_1470 dw_1471 (h5 hk) rfl ?_
    refine jw_goto (q := 1676) am dw_1476 rfl ?_
    exact jw_sub [0, 1, 2, 3, 4] rfl (kk s2 t2 o2 h3)
  · refine jw_ifneT (g := 1476) am dw_1461 hk rfl ?_
    refine jw_goto (q := 1676) am dw_1476 rfl ?_
    exact jw_sub [0, 1, 2, 3, 4] rfl (kk s2 t2 o2 h3)
set_option maxHeartbeats 4000000 in
theorem lo_reach {z : wt_Z} {b L : Nat} {xs : Nat → Int32} {j c n : Nat} {s : wt_S} {t : wt_M} {o : Nat → Int64} {rt : Option FieldType} {Q : State → Prop} (am : wt_Am z R_L code 7 60 rt) (lw : jw_L z b L xs) (hj : 6 * j + 6 ≤ L) (hL : L ≤ 3072) (hR : c + 1 ≤ (zz_R z).cells ∧ n + 6 ≤ (zz_R z).slots) (hs : sy_ s t) (kk : ∀ (s2 : wt_S) (t2 : wt_M) (o2 : Nat → Int64), sy_ s2 t2 → jw_J z 1676 (jw_0 z b (nI (6 * j))) [] (c + 1) (n + 6) (s2, t2, o2) Q) : jw_J z 1479 (jw_0 z b (nI (6 * j))) [] c n (s, t, o) Q := by
  obtain ⟨k, x, s2, t2, o2, h1, h2, h3, h4, h5⟩ : ∃ (k x : Int32) (s2 : wt_S) (t2 : wt_M) (o2 : Nat → Int64), cw_C (zz_v z) yl_reach (Cond.codeWith yl_reach bl_reach 6 (some .int) [(0, 12, 15, 13), (0, 12, 19, 81)]) 25 [.ref (ad_ z 0), .int (xs (6 * j + 1)), .int (xs (6 * j + 2)), .int (xs (6 * j + 3)), .ref (ad_ z 21)] k (s, t, o) (s2, t, o2) ∧ fm_reach t (xs (6 * j + 1)) (xs (6 * j + 2)) (xs (6 * j + 3)) = some (x, t2) ∧ sy_ s2 t2 ∧ t2.1 9 0 = k ∧ (k = 0 → o2 0 = x.toInt64) := by
    rcases sp_reach hs (xs (6 * j + 1)) (xs (6 * j + 2)) (xs (6 * j + 3)) with ⟨x, s2, t2, e1, e2, e3, e4⟩ | ⟨k, x, t2, e1, e2, e3, e4, e5, e6⟩
    · exact ⟨0, x, s2, t2, _, cl_reach t o e1, e2, e3, e4, fun _ => if_pos rfl⟩
    · exact ⟨nI k, x, s, t2, o, ce_reach t o e1, e2, e3, e4, fun e => absurd e (nI_ne0 e5 (by omega))⟩
  have hR0 : c + 1 ≤ (zz_R z).cells ∧ n + 6 ≤ (zz_R z).slots := hR
  refine jw_aload_n (q := 1480) am dw_1479 rfl 1 rfl rfl ?_
  refine jw_arg (k := 1) (q := 1486) am lw hj hL (by decide) (by decide) dw_1480 dw_1481 dw_1483 dw_1484 dw_1485 rfl rfl rfl ?_
  refine jw_arg (k := 2) (q := 1492) am lw hj hL (by decide) (by decide) dw_1486 dw_1487 dw_1489 dw_1490 dw_1491 rfl rfl rfl ?_
  refine jw_arg (k := 3) (q := 1498) am lw hj hL (by decide) (by decide) dw_1492 dw_1493 dw_1495 dw_1496 dw_1497 rfl rfl rfl ?_
  refine jw_aload_n (q := 1499) am dw_1498 rfl 3 rfl rfl ?_
  refine jw_W (q := 1502) (n' := 5) (rest := []) (k := k) (w' := (s2, t, o2)) [.ref (ad_ z 0), .int (xs (6 * j + 1)), .int (xs (6 * j + 2)), .int (xs (6 * j + 3)), .ref (ad_ z 21)] am lw mc_l_reach ml_L_l_reach ms_l_reach mi_L ⟨by decide +kernel, by decide +kernel, by decide +kernel⟩ (by decide) h1 rfl rfl (Nat.le_of_ble_eq_true rfl) dw_1499 hR rfl ?_
  refine jw_istore (lv' := (jw_1 z b (nI (6 * j)) k)) (q := 1504) am dw_1502 [1, 2, 3, 4, 5, 0] rfl rfl rfl ?_
  refine jw_aload_n (q := 1505) am dw_1504 rfl 2 rfl rfl ?_
  refine jw_arg (k := 1) (q := 1511) am lw hj hL (by decide) (by decide) dw_1505 dw_1506 dw_1508 dw_1509 dw_1510 rfl rfl rfl ?_
  refine jw_arg (k := 2) (q := 1517) am lw hj hL (by decide) (by decide) dw_1511 dw_1512 dw_1514 dw_1515 dw_1516 rfl rfl rfl ?_
  refine jw_arg (k := 3) (q := 1523) am lw hj hL (by decide) (by decide) dw_1517 dw_1518 dw_1520 dw_1521 dw_1522 rfl rfl rfl ?_
  refine jw_V (q := 1526) (rest := []) (w' := (s2, t2, o2)) (ret' := (some (.int x))) [.int (xs (6 * j + 1)), .int (xs (6 * j + 2)), .int (xs (6 * j + 3))] am lw ln_L_m_reach (ctm_reach s2 o2 h2) (by decide) (rc_M am) rfl rfl (Nat.le_of_ble_eq_true rfl) dw_1523 hR0 rfl ?_
  show jw_J z 1526 (jw_1 z b (nI (6 * j)) k) [.int x] (c + 1) (n + 6) (s2, t2, o2) Q
  refine jw_istore (lv' := (jw_2 z b (nI (6 * j)) k x)) (q := 1528) am dw_1526 [1, 2, 3, 4, 5, 6, 0] rfl rfl rfl ?_
  refine jw_aload_n (q := 1529) am dw_1528 rfl 2 rfl rfl ?_
  refine jw_V (q := 1532) (rest := []) (w' := (s2, t2, o2)) (ret' := some (.int (t2.1 9 0))) [] am lw ln_L_m_thrown (ctm_thrown s2 o2 rfl) (by decide) (rc_M am) rfl rfl (Nat.le_of_ble_eq_true rfl) dw_1529 hR0 rfl ?_
  show jw_J z 1532 (jw_2 z b (nI (6 * j)) k x) [.int (t2.1 9 0)] (c + 1) (n + 6) (s2, t2, o2) Q
  refine jw_iload (q := 1534) am dw_1532 5 rfl rfl ?_
  refine jw_icmpT (g := 1539) am dw_1534 h4 rfl ?_
  refine jw_iload (q := 1541) am dw_1539 5 rfl rfl ?_
  by_cases hk : k = 0
  · refine jw_ifneF (g := 1556) (q := 1544) am dw_1541 hk rfl rfl ?_
    refine jw_lald (q := 1547) am dw_1544 dw_1545 dw_1546 rfl rfl ?_
    refine jw_iload (q := 1549) am dw_1547 6 rfl rfl ?_
    refine jw_i2l (q := 1550) am dw_1549 rfl ?_
    refine jw_lcmpT (g := 1556) am dw_1550 dw_1551 (h5 hk) rfl ?_
    refine jw_goto (q := 1676) am dw_1556 rfl ?_
    exact jw_sub [0, 1, 2, 3, 4] rfl (kk s2 t2 o2 h3)
  · refine jw_ifneT (g := 1556) am dw_1541 hk rfl ?_
    refine jw_goto (q := 1676) am dw_1556 rfl ?_
    exact jw_sub [0, 1, 2, 3, 4] rfl (kk s2 t2 o2 h3)
set_option maxHeartbeats 4000000 in
theorem lo_check {z : wt_Z} {b L : Nat} {xs : Nat → Int32} {j c n : Nat} {s : wt_S} {t : wt_M} {o : Nat → Int64} {rt : Option FieldType} {Q : State → Prop} (am : wt_Am z R_L code 7 60 rt) (lw : jw_L z b L xs) (hj : 6 * j + 6 ≤ L) (hL : L ≤ 3072) (hR : c + 1 ≤ (zz_R z).cells ∧ n + 6 ≤ (zz_R z).slots) (hs : sy_ s t) (kk : ∀ (s2 : wt_S) (t2 : wt_M) (o2 : Nat → Int64), sy_ s2 t2 → jw_J z 1676 (jw_0 z b (nI (6 * j))) [] (c + 1) (n + 6) (s2, t2, o2) Q) : jw_J z 1559 (jw_0 z b (nI (6 * j))) [] c n (s, t, o) Q := by
  obtain ⟨k, x, s2, t2, o2, h1, h2, h3, h4, h5⟩ : ∃ (k x : Int32) (s2 : wt_S) (t2 : wt_M) (o2 : Nat → Int64), cw_C (zz_v z) yl_check (Cond.codeWith yl_check bl_check 8 (some .int) [(0, 16, 19, 13), (0, 16, 23, 23), (0, 16, 27, 81)]) 25 [.ref (ad_ z 0), .int (xs (6 * j + 1)), .int (xs (6 * j + 2)), .int (xs (6 * j + 3)), .int (xs (6 * j + 4)), .int (xs (6 * j + 5)), .ref (ad_ z 21)] k (s, t, o) (s2, t, o2) ∧ fm_check t (xs (6 * j + 1)) (xs (6 * j + 2)) (xs (6 * j + 3)) (xs (6 * j + 4)) (xs (6 * j + 5)) = some (x, t2) ∧ sy_ s2 t2 ∧ t2.1 9 0 = k ∧ (k = 0 → o2 0 = x.toInt64) := by
    rcases sp_check hs (xs (6 * j + 1)) (xs (6 * j + 2)) (xs (6 * j + 3)) (xs (6 * j + 4)) (xs (6 * j + 5)) with ⟨x, s2, t2, e1, e2, e3, e4⟩ | ⟨k, x, t2, e1, e2, e3, e4, e5, e6⟩
    · exact ⟨0, x, s2, t2, _, cl_check t o e1, e2, e3, e4, fun _ => if_pos rfl⟩
    · exact ⟨nI k, x, s, t2, o, ce_check t o e1, e2, e3, e4, fun e => absurd e (nI_ne0 e5 (by omega))⟩
  have hR0 : c + 1 ≤ (zz_R z).cells ∧ n + 6 ≤ (zz_R z).slots := hR
  refine jw_aload_n (q := 1560) am dw_1559 rfl 1 rfl rfl ?_
  refine jw_arg (k := 1) (q := 1566) am lw hj hL (by decide) (by decide) dw_1560 dw_1561 dw_1563 dw_1564 dw_1565 rfl rfl rfl ?_
  refine jw_arg (k := 2) (q := 1572) am lw hj hL (by decide) (by decide) dw_1566 dw_1567 dw_1569 dw_1570 dw_1571 rfl rfl rfl ?_
  refine jw_arg (k := 3) (q := 1578) am lw hj hL (by decide) (by decide) dw_1572 dw_1573 dw_1575 dw_1576 dw_1577 rfl rfl rfl ?_
  refine jw_arg (k := 4) (q := 1584) am lw hj hL (by decide) (by decide) dw_1578 dw_1579 dw_1581 dw_1582 dw_1583 rfl rfl rfl ?_
  refine jw_arg (k := 5) (q := 1590) am lw hj hL (by decide) (by decide) dw_1584 dw_1585 dw_1587 dw_1588 dw_1589 rfl rfl rfl ?_
  refine jw_aload_n (q := 1591) am dw_1590 rfl 3 rfl rfl ?_
  refine jw_W (q := 1594) (n' := 7) (rest := []) (k := k) (w' := (s2, t, o2)) [.ref (ad_ z 0), .int (xs (6 * j + 1)), .int (xs (6 * j + 2)), .int (xs (6 * j + 3)), .int (xs (6 * j + 4)), .int (xs (6 * j + 5)), .ref (ad_ z 21)] am lw mc_l_check ml_L_l_check ms_l_check mi_L ⟨by decide +kernel, by decide +kernel, by decide +kernel⟩ (by decide) h1 rfl rfl (Nat.le_of_ble_eq_true rfl) dw_1591 hR rfl ?_
  refine jw_istore (lv' := (jw_1 z b (nI (6 * j)) k)) (q := 1596) am dw_1594 [1, 2, 3, 4, 5, 0] rfl rfl rfl ?_
  refine jw_aload_n (q := 1597) am dw_1596 rfl 2 rfl rfl ?_
  refine jw_arg (k := 1) (q := 1603) am lw hj hL (by decide) (by decide) dw_1597 dw_1598 dw_1600 dw_1601 dw_1602 rfl rfl rfl ?_
  refine jw_arg (k := 2) (q := 1609) am lw hj hL (by decide) (by decide) dw_1603 dw_1604 dw_1606 dw_1607 dw_1608 rfl rfl rfl ?_
  refine jw_arg (k := 3) (q := 1615) am lw hj hL (by decide) (by decide) dw_1609 dw_1610 dw_1612 dw_1613 dw_1614 rfl rfl rfl ?_
  refine jw_arg (k := 4) (q := 1621) am lw hj hL (by decide) (by decide) dw_1615 dw_1616 dw_1618 dw_1619 dw_1620 rfl rfl rfl ?_
  refine jw_arg (k := 5) (q := 1627) am lw hj hL (by decide) (by decide) dw_1621 dw_1622 dw_1624 dw_1625 dw_1626 rfl rfl rfl ?_
  refine jw_V (q := 1630) (rest := []) (w' := (s2, t2, o2)) (ret' := (some (.int x))) [.int (xs (6 * j + 1)), .int (xs (6 * j + 2)), .int (xs (6 * j + 3)), .int (xs (6 * j + 4)), .int (xs (6 * j + 5))] am lw ln_L_m_check (ctm_check s2 o2 h2) (by decide) (rc_M am) rfl rfl (Nat.le_of_ble_eq_true rfl) dw_1627 hR0 rfl ?_
  show jw_J z 1630 (jw_1 z b (nI (6 * j)) k) [.int x] (c + 1) (n + 6) (s2, t2, o2) Q
  refine jw_istore (lv' := (jw_2 z b (nI (6 * j)) k x)) (q := 1632) am dw_1630 [1, 2, 3, 4, 5, 6, 0] rfl rfl rfl ?_
  refine jw_aload_n (q := 1633) am dw_1632 rfl 2 rfl rfl ?_
  refine jw_V (q := 1636) (rest := []) (w' := (s2, t2, o2)) (ret' := some (.int (t2.1 9 0))) [] am lw ln_L_m_thrown (ctm_thrown s2 o2 rfl) (by decide) (rc_M am) rfl rfl (Nat.le_of_ble_eq_true rfl) dw_1633 hR0 rfl ?_
  show jw_J z 1636 (jw_2 z b (nI (6 * j)) k x) [.int (t2.1 9 0)] (c + 1) (n + 6) (s2, t2, o2) Q
  refine jw_iload (q := 1638) am dw_1636 5 rfl rfl ?_
  refine jw_icmpT (g := 1643) am dw_1638 h4 rfl ?_
  refine jw_iload (q := 1645) am dw_1643 5 rfl rfl ?_
  by_cases hk : k = 0
  · refine jw_ifneF (g := 1660) (q := 1648) am dw_1645 hk rfl rfl ?_
    refine jw_lald (q := 1651) am dw_1648 dw_1649 dw_1650 rfl rfl ?_
    refine jw_iload (q := 1653) am dw_1651 6 rfl rfl ?_
    refine jw_i2l (q := 1654) am dw_1653 rfl ?_
    refine jw_lcmpT (g := 1660) am dw_1654 dw_1655 (h5 hk) rfl ?_
    refine jw_goto (q := 1676) am dw_1660 rfl ?_
    exact jw_sub [0, 1, 2, 3, 4] rfl (kk s2 t2 o2 h3)
  · refine jw_ifneT (g := 1660) am dw_1645 hk rfl ?_
    refine jw_goto (q := 1676) am dw_1660 rfl ?_
    exact jw_sub [0, 1, 2, 3, 4] rfl (kk s2 t2 o2 h3)
set_option maxHeartbeats 4000000 in
theorem lo_astray {z : wt_Z} {b L : Nat} {xs : Nat → Int32} {j c n : Nat} {s : wt_S} {t : wt_M} {o : Nat → Int64} {rt : Option FieldType} {Q : State → Prop} (am : wt_Am z R_L code 7 60 rt) (lw : jw_L z b L xs) (hj : 6 * j + 6 ≤ L) (hL : L ≤ 3072) (hR : c + 1 ≤ (zz_R z).cells ∧ n + 6 ≤ (zz_R z).slots) (hs : sy_ s t) (kk : ∀ (s2 : wt_S) (t2 : wt_M) (o2 : Nat → Int64), sy_ s2 t2 → jw_J z 1676 (jw_0 z b (nI (6 * j))) [] (c + 1) (n + 6) (s2, t2, o2) Q) : jw_J z 1663 (jw_0 z b (nI (6 * j))) [] c n (s, t, o) Q := by
  obtain ⟨r, s2, t2, e1, e2, e3, e4⟩ := sA_ok hs
  have hR0 : c ≤ (zz_R z).cells ∧ n ≤ (zz_R z).slots := ⟨by omega, by omega⟩
  refine jw_aload_n (q := 1664) am dw_1663 rfl 1 rfl rfl ?_
  refine jw_V (q := 1667) (rest := []) (w' := (s2, t, o)) (ret' := some (.int r)) [] am lw ln_L_x_astray (ctx_astray t o e1) (by decide) (rc_X am) rfl rfl (Nat.le_of_ble_eq_true rfl) dw_1664 hR0 rfl ?_
  show jw_J z 1667 (jw_0 z b (nI (6 * j))) [.int r] c n (s2, t, o) Q
  refine jw_aload_n (q := 1668) am dw_1667 rfl 2 rfl rfl ?_
  refine jw_V (q := 1671) (rest := [.int r]) (w' := (s2, t2, o)) (ret' := some (.int r)) [] am lw ln_L_m_astray (ctm_astray s2 o e2) (by decide) (rc_M am) rfl rfl (Nat.le_of_ble_eq_true rfl) dw_1668 hR0 rfl ?_
  show jw_J z 1671 (jw_0 z b (nI (6 * j))) [.int r, .int r] c n (s2, t2, o) Q
  refine jw_icmpT (g := 1676) am dw_1671 rfl rfl ?_
  exact jw_wide (by omega) (by omega) (kk s2 t2 o e3)
