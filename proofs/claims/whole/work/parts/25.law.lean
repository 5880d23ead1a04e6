/-! The law: its loop, case by case, over related memories. Printed by wip/whole/law.py. -/
theorem d_law_0 : decode code 0 = .ok (.new 7, 3) := by decide +kernel
theorem d_law_3 : decode code 3 = .ok (.dup, 1) := by decide +kernel
theorem d_law_4 : decode code 4 = .ok (.invokespecial 9, 3) := by decide +kernel
theorem d_law_7 : decode code 7 = .ok (.astore_n 1, 1) := by decide +kernel
theorem d_law_8 : decode code 8 = .ok (.new 10, 3) := by decide +kernel
theorem d_law_11 : decode code 11 = .ok (.dup, 1) := by decide +kernel
theorem d_law_12 : decode code 12 = .ok (.invokespecial 12, 3) := by decide +kernel
theorem d_law_15 : decode code 15 = .ok (.astore_n 2, 1) := by decide +kernel
theorem d_law_16 : decode code 16 = .ok (.iconst 0, 1) := by decide +kernel
theorem d_law_17 : decode code 17 = .ok (.istore_n 3, 1) := by decide +kernel
theorem d_law_18 : decode code 18 = .ok (.iload_n 3, 1) := by decide +kernel
theorem d_law_19 : decode code 19 = .ok (.aload_n 0, 1) := by decide +kernel
theorem d_law_20 : decode code 20 = .ok (.arraylength, 1) := by decide +kernel
theorem d_law_21 : decode code 21 = .ok (.iconst 5, 1) := by decide +kernel
theorem d_law_22 : decode code 22 = .ok (.isub, 1) := by decide +kernel
theorem d_law_23 : decode code 23 = .ok (.if_icmp .gt 1226, 3) := by decide +kernel
theorem d_law_26 : decode code 26 = .ok (.aload_n 0, 1) := by decide +kernel
theorem d_law_27 : decode code 27 = .ok (.iload_n 3, 1) := by decide +kernel
theorem d_law_28 : decode code 28 = .ok (.iaload, 1) := by decide +kernel
theorem d_law_29 : decode code 29 = .ok (.bipush 63, 2) := by decide +kernel
theorem d_law_31 : decode code 31 = .ok (.iand, 1) := by decide +kernel
theorem d_law_32 : decode code 32 = .ok (.tableswitch 1211 0 32 #[148, 171, 224, 247, 296, 329, 352, 365, 378, 411, 460, 473, 506, 549, 592, 635, 658, 691, 734, 757, 780, 813, 866, 899, 942, 985, 1038, 1081, 1105, 1128, 1151, 1174, 1197], 148) := by decide +kernel
theorem d_law_180 : decode code 180 = .ok (.aload_n 1, 1) := by decide +kernel
theorem d_law_181 : decode code 181 = .ok (.aload_n 0, 1) := by decide +kernel
theorem d_law_182 : decode code 182 = .ok (.iload_n 3, 1) := by decide +kernel
theorem d_law_183 : decode code 183 = .ok (.iconst 1, 1) := by decide +kernel
theorem d_law_184 : decode code 184 = .ok (.iadd, 1) := by decide +kernel
theorem d_law_185 : decode code 185 = .ok (.iaload, 1) := by decide +kernel
theorem d_law_186 : decode code 186 = .ok (.invokevirtual 13, 3) := by decide +kernel
theorem d_law_189 : decode code 189 = .ok (.aload_n 2, 1) := by decide +kernel
theorem d_law_190 : decode code 190 = .ok (.aload_n 0, 1) := by decide +kernel
theorem d_law_191 : decode code 191 = .ok (.iload_n 3, 1) := by decide +kernel
theorem d_law_192 : decode code 192 = .ok (.iconst 1, 1) := by decide +kernel
theorem d_law_193 : decode code 193 = .ok (.iadd, 1) := by decide +kernel
theorem d_law_194 : decode code 194 = .ok (.iaload, 1) := by decide +kernel
theorem d_law_195 : decode code 195 = .ok (.invokevirtual 17, 3) := by decide +kernel
theorem d_law_198 : decode code 198 = .ok (.if_icmp .eq 1045, 3) := by decide +kernel
theorem d_law_201 : decode code 201 = .ok (.iconst 0, 1) := by decide +kernel
theorem d_law_202 : decode code 202 = .ok (.ireturn, 1) := by decide +kernel
theorem d_law_203 : decode code 203 = .ok (.aload_n 1, 1) := by decide +kernel
theorem d_law_204 : decode code 204 = .ok (.aload_n 0, 1) := by decide +kernel
theorem d_law_205 : decode code 205 = .ok (.iload_n 3, 1) := by decide +kernel
theorem d_law_206 : decode code 206 = .ok (.iconst 1, 1) := by decide +kernel
theorem d_law_207 : decode code 207 = .ok (.iadd, 1) := by decide +kernel
theorem d_law_208 : decode code 208 = .ok (.iaload, 1) := by decide +kernel
theorem d_law_209 : decode code 209 = .ok (.aload_n 0, 1) := by decide +kernel
theorem d_law_210 : decode code 210 = .ok (.iload_n 3, 1) := by decide +kernel
theorem d_law_211 : decode code 211 = .ok (.iconst 2, 1) := by decide +kernel
theorem d_law_212 : decode code 212 = .ok (.iadd, 1) := by decide +kernel
theorem d_law_213 : decode code 213 = .ok (.iaload, 1) := by decide +kernel
theorem d_law_214 : decode code 214 = .ok (.aload_n 0, 1) := by decide +kernel
theorem d_law_215 : decode code 215 = .ok (.iload_n 3, 1) := by decide +kernel
theorem d_law_216 : decode code 216 = .ok (.iconst 3, 1) := by decide +kernel
theorem d_law_217 : decode code 217 = .ok (.iadd, 1) := by decide +kernel
theorem d_law_218 : decode code 218 = .ok (.iaload, 1) := by decide +kernel
theorem d_law_219 : decode code 219 = .ok (.aload_n 0, 1) := by decide +kernel
theorem d_law_220 : decode code 220 = .ok (.iload_n 3, 1) := by decide +kernel
theorem d_law_221 : decode code 221 = .ok (.iconst 4, 1) := by decide +kernel
theorem d_law_222 : decode code 222 = .ok (.iadd, 1) := by decide +kernel
theorem d_law_223 : decode code 223 = .ok (.iaload, 1) := by decide +kernel
theorem d_law_224 : decode code 224 = .ok (.invokevirtual 18, 3) := by decide +kernel
theorem d_law_227 : decode code 227 = .ok (.aload_n 2, 1) := by decide +kernel
theorem d_law_228 : decode code 228 = .ok (.aload_n 0, 1) := by decide +kernel
theorem d_law_229 : decode code 229 = .ok (.iload_n 3, 1) := by decide +kernel
theorem d_law_230 : decode code 230 = .ok (.iconst 1, 1) := by decide +kernel
theorem d_law_231 : decode code 231 = .ok (.iadd, 1) := by decide +kernel
theorem d_law_232 : decode code 232 = .ok (.iaload, 1) := by decide +kernel
theorem d_law_233 : decode code 233 = .ok (.aload_n 0, 1) := by decide +kernel
theorem d_law_234 : decode code 234 = .ok (.iload_n 3, 1) := by decide +kernel
theorem d_law_235 : decode code 235 = .ok (.iconst 2, 1) := by decide +kernel
theorem d_law_236 : decode code 236 = .ok (.iadd, 1) := by decide +kernel
theorem d_law_237 : decode code 237 = .ok (.iaload, 1) := by decide +kernel
theorem d_law_238 : decode code 238 = .ok (.aload_n 0, 1) := by decide +kernel
theorem d_law_239 : decode code 239 = .ok (.iload_n 3, 1) := by decide +kernel
theorem d_law_240 : decode code 240 = .ok (.iconst 3, 1) := by decide +kernel
theorem d_law_241 : decode code 241 = .ok (.iadd, 1) := by decide +kernel
theorem d_law_242 : decode code 242 = .ok (.iaload, 1) := by decide +kernel
theorem d_law_243 : decode code 243 = .ok (.aload_n 0, 1) := by decide +kernel
theorem d_law_244 : decode code 244 = .ok (.iload_n 3, 1) := by decide +kernel
theorem d_law_245 : decode code 245 = .ok (.iconst 4, 1) := by decide +kernel
theorem d_law_246 : decode code 246 = .ok (.iadd, 1) := by decide +kernel
theorem d_law_247 : decode code 247 = .ok (.iaload, 1) := by decide +kernel
theorem d_law_248 : decode code 248 = .ok (.invokevirtual 22, 3) := by decide +kernel
theorem d_law_251 : decode code 251 = .ok (.if_icmp .eq 992, 3) := by decide +kernel
theorem d_law_254 : decode code 254 = .ok (.iconst 0, 1) := by decide +kernel
theorem d_law_255 : decode code 255 = .ok (.ireturn, 1) := by decide +kernel
theorem d_law_256 : decode code 256 = .ok (.aload_n 1, 1) := by decide +kernel
theorem d_law_257 : decode code 257 = .ok (.aload_n 0, 1) := by decide +kernel
theorem d_law_258 : decode code 258 = .ok (.iload_n 3, 1) := by decide +kernel
theorem d_law_259 : decode code 259 = .ok (.iconst 1, 1) := by decide +kernel
theorem d_law_260 : decode code 260 = .ok (.iadd, 1) := by decide +kernel
theorem d_law_261 : decode code 261 = .ok (.iaload, 1) := by decide +kernel
theorem d_law_262 : decode code 262 = .ok (.invokevirtual 23, 3) := by decide +kernel
theorem d_law_265 : decode code 265 = .ok (.aload_n 2, 1) := by decide +kernel
theorem d_law_266 : decode code 266 = .ok (.aload_n 0, 1) := by decide +kernel
theorem d_law_267 : decode code 267 = .ok (.iload_n 3, 1) := by decide +kernel
theorem d_law_268 : decode code 268 = .ok (.iconst 1, 1) := by decide +kernel
theorem d_law_269 : decode code 269 = .ok (.iadd, 1) := by decide +kernel
theorem d_law_270 : decode code 270 = .ok (.iaload, 1) := by decide +kernel
theorem d_law_271 : decode code 271 = .ok (.invokevirtual 26, 3) := by decide +kernel
theorem d_law_274 : decode code 274 = .ok (.if_icmp .eq 969, 3) := by decide +kernel
theorem d_law_277 : decode code 277 = .ok (.iconst 0, 1) := by decide +kernel
theorem d_law_278 : decode code 278 = .ok (.ireturn, 1) := by decide +kernel
theorem d_law_279 : decode code 279 = .ok (.aload_n 1, 1) := by decide +kernel
theorem d_law_280 : decode code 280 = .ok (.aload_n 0, 1) := by decide +kernel
theorem d_law_281 : decode code 281 = .ok (.iload_n 3, 1) := by decide +kernel
theorem d_law_282 : decode code 282 = .ok (.iconst 1, 1) := by decide +kernel
theorem d_law_283 : decode code 283 = .ok (.iadd, 1) := by decide +kernel
theorem d_law_284 : decode code 284 = .ok (.iaload, 1) := by decide +kernel
theorem d_law_285 : decode code 285 = .ok (.aload_n 0, 1) := by decide +kernel
theorem d_law_286 : decode code 286 = .ok (.iload_n 3, 1) := by decide +kernel
theorem d_law_287 : decode code 287 = .ok (.iconst 2, 1) := by decide +kernel
theorem d_law_288 : decode code 288 = .ok (.iadd, 1) := by decide +kernel
theorem d_law_289 : decode code 289 = .ok (.iaload, 1) := by decide +kernel
theorem d_law_290 : decode code 290 = .ok (.ifCond .eq 7, 3) := by decide +kernel
theorem d_law_293 : decode code 293 = .ok (.iconst 1, 1) := by decide +kernel
theorem d_law_294 : decode code 294 = .ok (.goto 4, 3) := by decide +kernel
theorem d_law_297 : decode code 297 = .ok (.iconst 0, 1) := by decide +kernel
theorem d_law_298 : decode code 298 = .ok (.invokevirtual 27, 3) := by decide +kernel
theorem d_law_301 : decode code 301 = .ok (.aload_n 2, 1) := by decide +kernel
theorem d_law_302 : decode code 302 = .ok (.aload_n 0, 1) := by decide +kernel
theorem d_law_303 : decode code 303 = .ok (.iload_n 3, 1) := by decide +kernel
theorem d_law_304 : decode code 304 = .ok (.iconst 1, 1) := by decide +kernel
theorem d_law_305 : decode code 305 = .ok (.iadd, 1) := by decide +kernel
theorem d_law_306 : decode code 306 = .ok (.iaload, 1) := by decide +kernel
theorem d_law_307 : decode code 307 = .ok (.aload_n 0, 1) := by decide +kernel
theorem d_law_308 : decode code 308 = .ok (.iload_n 3, 1) := by decide +kernel
theorem d_law_309 : decode code 309 = .ok (.iconst 2, 1) := by decide +kernel
theorem d_law_310 : decode code 310 = .ok (.iadd, 1) := by decide +kernel
theorem d_law_311 : decode code 311 = .ok (.iaload, 1) := by decide +kernel
theorem d_law_312 : decode code 312 = .ok (.ifCond .eq 7, 3) := by decide +kernel
theorem d_law_315 : decode code 315 = .ok (.iconst 1, 1) := by decide +kernel
theorem d_law_316 : decode code 316 = .ok (.goto 4, 3) := by decide +kernel
theorem d_law_319 : decode code 319 = .ok (.iconst 0, 1) := by decide +kernel
theorem d_law_320 : decode code 320 = .ok (.invokevirtual 31, 3) := by decide +kernel
theorem d_law_323 : decode code 323 = .ok (.if_icmp .eq 920, 3) := by decide +kernel
theorem d_law_326 : decode code 326 = .ok (.iconst 0, 1) := by decide +kernel
theorem d_law_327 : decode code 327 = .ok (.ireturn, 1) := by decide +kernel
theorem d_law_328 : decode code 328 = .ok (.aload_n 1, 1) := by decide +kernel
theorem d_law_329 : decode code 329 = .ok (.aload_n 0, 1) := by decide +kernel
theorem d_law_330 : decode code 330 = .ok (.iload_n 3, 1) := by decide +kernel
theorem d_law_331 : decode code 331 = .ok (.iconst 1, 1) := by decide +kernel
theorem d_law_332 : decode code 332 = .ok (.iadd, 1) := by decide +kernel
theorem d_law_333 : decode code 333 = .ok (.iaload, 1) := by decide +kernel
theorem d_law_334 : decode code 334 = .ok (.aload_n 0, 1) := by decide +kernel
theorem d_law_335 : decode code 335 = .ok (.iload_n 3, 1) := by decide +kernel
theorem d_law_336 : decode code 336 = .ok (.iconst 2, 1) := by decide +kernel
theorem d_law_337 : decode code 337 = .ok (.iadd, 1) := by decide +kernel
theorem d_law_338 : decode code 338 = .ok (.iaload, 1) := by decide +kernel
theorem d_law_339 : decode code 339 = .ok (.invokevirtual 32, 3) := by decide +kernel
theorem d_law_342 : decode code 342 = .ok (.aload_n 2, 1) := by decide +kernel
theorem d_law_343 : decode code 343 = .ok (.aload_n 0, 1) := by decide +kernel
theorem d_law_344 : decode code 344 = .ok (.iload_n 3, 1) := by decide +kernel
theorem d_law_345 : decode code 345 = .ok (.iconst 1, 1) := by decide +kernel
theorem d_law_346 : decode code 346 = .ok (.iadd, 1) := by decide +kernel
theorem d_law_347 : decode code 347 = .ok (.iaload, 1) := by decide +kernel
theorem d_law_348 : decode code 348 = .ok (.aload_n 0, 1) := by decide +kernel
theorem d_law_349 : decode code 349 = .ok (.iload_n 3, 1) := by decide +kernel
theorem d_law_350 : decode code 350 = .ok (.iconst 2, 1) := by decide +kernel
theorem d_law_351 : decode code 351 = .ok (.iadd, 1) := by decide +kernel
theorem d_law_352 : decode code 352 = .ok (.iaload, 1) := by decide +kernel
theorem d_law_353 : decode code 353 = .ok (.invokevirtual 36, 3) := by decide +kernel
theorem d_law_356 : decode code 356 = .ok (.if_icmp .eq 887, 3) := by decide +kernel
theorem d_law_359 : decode code 359 = .ok (.iconst 0, 1) := by decide +kernel
theorem d_law_360 : decode code 360 = .ok (.ireturn, 1) := by decide +kernel
theorem d_law_361 : decode code 361 = .ok (.aload_n 1, 1) := by decide +kernel
theorem d_law_362 : decode code 362 = .ok (.aload_n 0, 1) := by decide +kernel
theorem d_law_363 : decode code 363 = .ok (.iload_n 3, 1) := by decide +kernel
theorem d_law_364 : decode code 364 = .ok (.iconst 1, 1) := by decide +kernel
theorem d_law_365 : decode code 365 = .ok (.iadd, 1) := by decide +kernel
theorem d_law_366 : decode code 366 = .ok (.iaload, 1) := by decide +kernel
theorem d_law_367 : decode code 367 = .ok (.invokevirtual 37, 3) := by decide +kernel
theorem d_law_370 : decode code 370 = .ok (.aload_n 2, 1) := by decide +kernel
theorem d_law_371 : decode code 371 = .ok (.aload_n 0, 1) := by decide +kernel
theorem d_law_372 : decode code 372 = .ok (.iload_n 3, 1) := by decide +kernel
theorem d_law_373 : decode code 373 = .ok (.iconst 1, 1) := by decide +kernel
theorem d_law_374 : decode code 374 = .ok (.iadd, 1) := by decide +kernel
theorem d_law_375 : decode code 375 = .ok (.iaload, 1) := by decide +kernel
theorem d_law_376 : decode code 376 = .ok (.invokevirtual 40, 3) := by decide +kernel
theorem d_law_379 : decode code 379 = .ok (.if_icmp .eq 864, 3) := by decide +kernel
theorem d_law_382 : decode code 382 = .ok (.iconst 0, 1) := by decide +kernel
theorem d_law_383 : decode code 383 = .ok (.ireturn, 1) := by decide +kernel
theorem d_law_384 : decode code 384 = .ok (.aload_n 1, 1) := by decide +kernel
theorem d_law_385 : decode code 385 = .ok (.invokevirtual 41, 3) := by decide +kernel
theorem d_law_388 : decode code 388 = .ok (.aload_n 2, 1) := by decide +kernel
theorem d_law_389 : decode code 389 = .ok (.invokevirtual 45, 3) := by decide +kernel
theorem d_law_392 : decode code 392 = .ok (.if_icmp .eq 851, 3) := by decide +kernel
theorem d_law_395 : decode code 395 = .ok (.iconst 0, 1) := by decide +kernel
theorem d_law_396 : decode code 396 = .ok (.ireturn, 1) := by decide +kernel
theorem d_law_397 : decode code 397 = .ok (.aload_n 1, 1) := by decide +kernel
theorem d_law_398 : decode code 398 = .ok (.invokevirtual 46, 3) := by decide +kernel
theorem d_law_401 : decode code 401 = .ok (.aload_n 2, 1) := by decide +kernel
theorem d_law_402 : decode code 402 = .ok (.invokevirtual 49, 3) := by decide +kernel
theorem d_law_405 : decode code 405 = .ok (.if_icmp .eq 838, 3) := by decide +kernel
theorem d_law_408 : decode code 408 = .ok (.iconst 0, 1) := by decide +kernel
theorem d_law_409 : decode code 409 = .ok (.ireturn, 1) := by decide +kernel
theorem d_law_410 : decode code 410 = .ok (.aload_n 1, 1) := by decide +kernel
theorem d_law_411 : decode code 411 = .ok (.aload_n 0, 1) := by decide +kernel
theorem d_law_412 : decode code 412 = .ok (.iload_n 3, 1) := by decide +kernel
theorem d_law_413 : decode code 413 = .ok (.iconst 1, 1) := by decide +kernel
theorem d_law_414 : decode code 414 = .ok (.iadd, 1) := by decide +kernel
theorem d_law_415 : decode code 415 = .ok (.iaload, 1) := by decide +kernel
theorem d_law_416 : decode code 416 = .ok (.aload_n 0, 1) := by decide +kernel
theorem d_law_417 : decode code 417 = .ok (.iload_n 3, 1) := by decide +kernel
theorem d_law_418 : decode code 418 = .ok (.iconst 2, 1) := by decide +kernel
theorem d_law_419 : decode code 419 = .ok (.iadd, 1) := by decide +kernel
theorem d_law_420 : decode code 420 = .ok (.iaload, 1) := by decide +kernel
theorem d_law_421 : decode code 421 = .ok (.invokevirtual 50, 3) := by decide +kernel
theorem d_law_424 : decode code 424 = .ok (.aload_n 2, 1) := by decide +kernel
theorem d_law_425 : decode code 425 = .ok (.aload_n 0, 1) := by decide +kernel
theorem d_law_426 : decode code 426 = .ok (.iload_n 3, 1) := by decide +kernel
theorem d_law_427 : decode code 427 = .ok (.iconst 1, 1) := by decide +kernel
theorem d_law_428 : decode code 428 = .ok (.iadd, 1) := by decide +kernel
theorem d_law_429 : decode code 429 = .ok (.iaload, 1) := by decide +kernel
theorem d_law_430 : decode code 430 = .ok (.aload_n 0, 1) := by decide +kernel
theorem d_law_431 : decode code 431 = .ok (.iload_n 3, 1) := by decide +kernel
theorem d_law_432 : decode code 432 = .ok (.iconst 2, 1) := by decide +kernel
theorem d_law_433 : decode code 433 = .ok (.iadd, 1) := by decide +kernel
theorem d_law_434 : decode code 434 = .ok (.iaload, 1) := by decide +kernel
theorem d_law_435 : decode code 435 = .ok (.invokevirtual 53, 3) := by decide +kernel
theorem d_law_438 : decode code 438 = .ok (.if_icmp .eq 805, 3) := by decide +kernel
theorem d_law_441 : decode code 441 = .ok (.iconst 0, 1) := by decide +kernel
theorem d_law_442 : decode code 442 = .ok (.ireturn, 1) := by decide +kernel
theorem d_law_443 : decode code 443 = .ok (.aload_n 1, 1) := by decide +kernel
theorem d_law_444 : decode code 444 = .ok (.aload_n 0, 1) := by decide +kernel
theorem d_law_445 : decode code 445 = .ok (.iload_n 3, 1) := by decide +kernel
theorem d_law_446 : decode code 446 = .ok (.iconst 1, 1) := by decide +kernel
theorem d_law_447 : decode code 447 = .ok (.iadd, 1) := by decide +kernel
theorem d_law_448 : decode code 448 = .ok (.iaload, 1) := by decide +kernel
theorem d_law_449 : decode code 449 = .ok (.aload_n 0, 1) := by decide +kernel
theorem d_law_450 : decode code 450 = .ok (.iload_n 3, 1) := by decide +kernel
theorem d_law_451 : decode code 451 = .ok (.iconst 2, 1) := by decide +kernel
theorem d_law_452 : decode code 452 = .ok (.iadd, 1) := by decide +kernel
theorem d_law_453 : decode code 453 = .ok (.iaload, 1) := by decide +kernel
theorem d_law_454 : decode code 454 = .ok (.ifCond .eq 7, 3) := by decide +kernel
theorem d_law_457 : decode code 457 = .ok (.iconst 1, 1) := by decide +kernel
theorem d_law_458 : decode code 458 = .ok (.goto 4, 3) := by decide +kernel
theorem d_law_461 : decode code 461 = .ok (.iconst 0, 1) := by decide +kernel
theorem d_law_462 : decode code 462 = .ok (.invokevirtual 54, 3) := by decide +kernel
theorem d_law_465 : decode code 465 = .ok (.aload_n 2, 1) := by decide +kernel
theorem d_law_466 : decode code 466 = .ok (.aload_n 0, 1) := by decide +kernel
theorem d_law_467 : decode code 467 = .ok (.iload_n 3, 1) := by decide +kernel
theorem d_law_468 : decode code 468 = .ok (.iconst 1, 1) := by decide +kernel
theorem d_law_469 : decode code 469 = .ok (.iadd, 1) := by decide +kernel
theorem d_law_470 : decode code 470 = .ok (.iaload, 1) := by decide +kernel
theorem d_law_471 : decode code 471 = .ok (.aload_n 0, 1) := by decide +kernel
theorem d_law_472 : decode code 472 = .ok (.iload_n 3, 1) := by decide +kernel
theorem d_law_473 : decode code 473 = .ok (.iconst 2, 1) := by decide +kernel
theorem d_law_474 : decode code 474 = .ok (.iadd, 1) := by decide +kernel
theorem d_law_475 : decode code 475 = .ok (.iaload, 1) := by decide +kernel
theorem d_law_476 : decode code 476 = .ok (.ifCond .eq 7, 3) := by decide +kernel
theorem d_law_479 : decode code 479 = .ok (.iconst 1, 1) := by decide +kernel
theorem d_law_480 : decode code 480 = .ok (.goto 4, 3) := by decide +kernel
theorem d_law_483 : decode code 483 = .ok (.iconst 0, 1) := by decide +kernel
theorem d_law_484 : decode code 484 = .ok (.invokevirtual 57, 3) := by decide +kernel
theorem d_law_487 : decode code 487 = .ok (.if_icmp .eq 756, 3) := by decide +kernel
theorem d_law_490 : decode code 490 = .ok (.iconst 0, 1) := by decide +kernel
theorem d_law_491 : decode code 491 = .ok (.ireturn, 1) := by decide +kernel
theorem d_law_492 : decode code 492 = .ok (.aload_n 1, 1) := by decide +kernel
theorem d_law_493 : decode code 493 = .ok (.invokevirtual 58, 3) := by decide +kernel
theorem d_law_496 : decode code 496 = .ok (.aload_n 2, 1) := by decide +kernel
theorem d_law_497 : decode code 497 = .ok (.invokevirtual 61, 3) := by decide +kernel
theorem d_law_500 : decode code 500 = .ok (.if_icmp .eq 743, 3) := by decide +kernel
theorem d_law_503 : decode code 503 = .ok (.iconst 0, 1) := by decide +kernel
theorem d_law_504 : decode code 504 = .ok (.ireturn, 1) := by decide +kernel
theorem d_law_505 : decode code 505 = .ok (.aload_n 1, 1) := by decide +kernel
theorem d_law_506 : decode code 506 = .ok (.aload_n 0, 1) := by decide +kernel
theorem d_law_507 : decode code 507 = .ok (.iload_n 3, 1) := by decide +kernel
theorem d_law_508 : decode code 508 = .ok (.iconst 1, 1) := by decide +kernel
theorem d_law_509 : decode code 509 = .ok (.iadd, 1) := by decide +kernel
theorem d_law_510 : decode code 510 = .ok (.iaload, 1) := by decide +kernel
theorem d_law_511 : decode code 511 = .ok (.aload_n 0, 1) := by decide +kernel
theorem d_law_512 : decode code 512 = .ok (.iload_n 3, 1) := by decide +kernel
theorem d_law_513 : decode code 513 = .ok (.iconst 2, 1) := by decide +kernel
theorem d_law_514 : decode code 514 = .ok (.iadd, 1) := by decide +kernel
theorem d_law_515 : decode code 515 = .ok (.iaload, 1) := by decide +kernel
theorem d_law_516 : decode code 516 = .ok (.invokevirtual 62, 3) := by decide +kernel
theorem d_law_519 : decode code 519 = .ok (.aload_n 2, 1) := by decide +kernel
theorem d_law_520 : decode code 520 = .ok (.aload_n 0, 1) := by decide +kernel
theorem d_law_521 : decode code 521 = .ok (.iload_n 3, 1) := by decide +kernel
theorem d_law_522 : decode code 522 = .ok (.iconst 1, 1) := by decide +kernel
theorem d_law_523 : decode code 523 = .ok (.iadd, 1) := by decide +kernel
theorem d_law_524 : decode code 524 = .ok (.iaload, 1) := by decide +kernel
theorem d_law_525 : decode code 525 = .ok (.aload_n 0, 1) := by decide +kernel
theorem d_law_526 : decode code 526 = .ok (.iload_n 3, 1) := by decide +kernel
theorem d_law_527 : decode code 527 = .ok (.iconst 2, 1) := by decide +kernel
theorem d_law_528 : decode code 528 = .ok (.iadd, 1) := by decide +kernel
theorem d_law_529 : decode code 529 = .ok (.iaload, 1) := by decide +kernel
theorem d_law_530 : decode code 530 = .ok (.invokevirtual 65, 3) := by decide +kernel
theorem d_law_533 : decode code 533 = .ok (.if_icmp .eq 710, 3) := by decide +kernel
theorem d_law_536 : decode code 536 = .ok (.iconst 0, 1) := by decide +kernel
theorem d_law_537 : decode code 537 = .ok (.ireturn, 1) := by decide +kernel
theorem d_law_538 : decode code 538 = .ok (.aload_n 1, 1) := by decide +kernel
theorem d_law_539 : decode code 539 = .ok (.aload_n 0, 1) := by decide +kernel
theorem d_law_540 : decode code 540 = .ok (.iload_n 3, 1) := by decide +kernel
theorem d_law_541 : decode code 541 = .ok (.iconst 1, 1) := by decide +kernel
theorem d_law_542 : decode code 542 = .ok (.iadd, 1) := by decide +kernel
theorem d_law_543 : decode code 543 = .ok (.iaload, 1) := by decide +kernel
theorem d_law_544 : decode code 544 = .ok (.aload_n 0, 1) := by decide +kernel
theorem d_law_545 : decode code 545 = .ok (.iload_n 3, 1) := by decide +kernel
theorem d_law_546 : decode code 546 = .ok (.iconst 2, 1) := by decide +kernel
theorem d_law_547 : decode code 547 = .ok (.iadd, 1) := by decide +kernel
theorem d_law_548 : decode code 548 = .ok (.iaload, 1) := by decide +kernel
theorem d_law_549 : decode code 549 = .ok (.aload_n 0, 1) := by decide +kernel
theorem d_law_550 : decode code 550 = .ok (.iload_n 3, 1) := by decide +kernel
theorem d_law_551 : decode code 551 = .ok (.iconst 3, 1) := by decide +kernel
theorem d_law_552 : decode code 552 = .ok (.iadd, 1) := by decide +kernel
theorem d_law_553 : decode code 553 = .ok (.iaload, 1) := by decide +kernel
theorem d_law_554 : decode code 554 = .ok (.invokevirtual 66, 3) := by decide +kernel
theorem d_law_557 : decode code 557 = .ok (.aload_n 2, 1) := by decide +kernel
theorem d_law_558 : decode code 558 = .ok (.aload_n 0, 1) := by decide +kernel
theorem d_law_559 : decode code 559 = .ok (.iload_n 3, 1) := by decide +kernel
theorem d_law_560 : decode code 560 = .ok (.iconst 1, 1) := by decide +kernel
theorem d_law_561 : decode code 561 = .ok (.iadd, 1) := by decide +kernel
theorem d_law_562 : decode code 562 = .ok (.iaload, 1) := by decide +kernel
theorem d_law_563 : decode code 563 = .ok (.aload_n 0, 1) := by decide +kernel
theorem d_law_564 : decode code 564 = .ok (.iload_n 3, 1) := by decide +kernel
theorem d_law_565 : decode code 565 = .ok (.iconst 2, 1) := by decide +kernel
theorem d_law_566 : decode code 566 = .ok (.iadd, 1) := by decide +kernel
theorem d_law_567 : decode code 567 = .ok (.iaload, 1) := by decide +kernel
theorem d_law_568 : decode code 568 = .ok (.aload_n 0, 1) := by decide +kernel
theorem d_law_569 : decode code 569 = .ok (.iload_n 3, 1) := by decide +kernel
theorem d_law_570 : decode code 570 = .ok (.iconst 3, 1) := by decide +kernel
theorem d_law_571 : decode code 571 = .ok (.iadd, 1) := by decide +kernel
theorem d_law_572 : decode code 572 = .ok (.iaload, 1) := by decide +kernel
theorem d_law_573 : decode code 573 = .ok (.invokevirtual 70, 3) := by decide +kernel
theorem d_law_576 : decode code 576 = .ok (.if_icmp .eq 667, 3) := by decide +kernel
theorem d_law_579 : decode code 579 = .ok (.iconst 0, 1) := by decide +kernel
theorem d_law_580 : decode code 580 = .ok (.ireturn, 1) := by decide +kernel
theorem d_law_581 : decode code 581 = .ok (.aload_n 1, 1) := by decide +kernel
theorem d_law_582 : decode code 582 = .ok (.aload_n 0, 1) := by decide +kernel
theorem d_law_583 : decode code 583 = .ok (.iload_n 3, 1) := by decide +kernel
theorem d_law_584 : decode code 584 = .ok (.iconst 1, 1) := by decide +kernel
theorem d_law_585 : decode code 585 = .ok (.iadd, 1) := by decide +kernel
theorem d_law_586 : decode code 586 = .ok (.iaload, 1) := by decide +kernel
theorem d_law_587 : decode code 587 = .ok (.aload_n 0, 1) := by decide +kernel
theorem d_law_588 : decode code 588 = .ok (.iload_n 3, 1) := by decide +kernel
theorem d_law_589 : decode code 589 = .ok (.iconst 2, 1) := by decide +kernel
theorem d_law_590 : decode code 590 = .ok (.iadd, 1) := by decide +kernel
theorem d_law_591 : decode code 591 = .ok (.iaload, 1) := by decide +kernel
theorem d_law_592 : decode code 592 = .ok (.aload_n 0, 1) := by decide +kernel
theorem d_law_593 : decode code 593 = .ok (.iload_n 3, 1) := by decide +kernel
theorem d_law_594 : decode code 594 = .ok (.iconst 3, 1) := by decide +kernel
theorem d_law_595 : decode code 595 = .ok (.iadd, 1) := by decide +kernel
theorem d_law_596 : decode code 596 = .ok (.iaload, 1) := by decide +kernel
theorem d_law_597 : decode code 597 = .ok (.invokevirtual 71, 3) := by decide +kernel
theorem d_law_600 : decode code 600 = .ok (.aload_n 2, 1) := by decide +kernel
theorem d_law_601 : decode code 601 = .ok (.aload_n 0, 1) := by decide +kernel
theorem d_law_602 : decode code 602 = .ok (.iload_n 3, 1) := by decide +kernel
theorem d_law_603 : decode code 603 = .ok (.iconst 1, 1) := by decide +kernel
theorem d_law_604 : decode code 604 = .ok (.iadd, 1) := by decide +kernel
theorem d_law_605 : decode code 605 = .ok (.iaload, 1) := by decide +kernel
theorem d_law_606 : decode code 606 = .ok (.aload_n 0, 1) := by decide +kernel
theorem d_law_607 : decode code 607 = .ok (.iload_n 3, 1) := by decide +kernel
theorem d_law_608 : decode code 608 = .ok (.iconst 2, 1) := by decide +kernel
theorem d_law_609 : decode code 609 = .ok (.iadd, 1) := by decide +kernel
theorem d_law_610 : decode code 610 = .ok (.iaload, 1) := by decide +kernel
theorem d_law_611 : decode code 611 = .ok (.aload_n 0, 1) := by decide +kernel
theorem d_law_612 : decode code 612 = .ok (.iload_n 3, 1) := by decide +kernel
theorem d_law_613 : decode code 613 = .ok (.iconst 3, 1) := by decide +kernel
theorem d_law_614 : decode code 614 = .ok (.iadd, 1) := by decide +kernel
theorem d_law_615 : decode code 615 = .ok (.iaload, 1) := by decide +kernel
theorem d_law_616 : decode code 616 = .ok (.invokevirtual 74, 3) := by decide +kernel
theorem d_law_619 : decode code 619 = .ok (.if_icmp .eq 624, 3) := by decide +kernel
theorem d_law_622 : decode code 622 = .ok (.iconst 0, 1) := by decide +kernel
theorem d_law_623 : decode code 623 = .ok (.ireturn, 1) := by decide +kernel
theorem d_law_624 : decode code 624 = .ok (.aload_n 1, 1) := by decide +kernel
theorem d_law_625 : decode code 625 = .ok (.aload_n 0, 1) := by decide +kernel
theorem d_law_626 : decode code 626 = .ok (.iload_n 3, 1) := by decide +kernel
theorem d_law_627 : decode code 627 = .ok (.iconst 1, 1) := by decide +kernel
theorem d_law_628 : decode code 628 = .ok (.iadd, 1) := by decide +kernel
theorem d_law_629 : decode code 629 = .ok (.iaload, 1) := by decide +kernel
theorem d_law_630 : decode code 630 = .ok (.aload_n 0, 1) := by decide +kernel
theorem d_law_631 : decode code 631 = .ok (.iload_n 3, 1) := by decide +kernel
theorem d_law_632 : decode code 632 = .ok (.iconst 2, 1) := by decide +kernel
theorem d_law_633 : decode code 633 = .ok (.iadd, 1) := by decide +kernel
theorem d_law_634 : decode code 634 = .ok (.iaload, 1) := by decide +kernel
theorem d_law_635 : decode code 635 = .ok (.aload_n 0, 1) := by decide +kernel
theorem d_law_636 : decode code 636 = .ok (.iload_n 3, 1) := by decide +kernel
theorem d_law_637 : decode code 637 = .ok (.iconst 3, 1) := by decide +kernel
theorem d_law_638 : decode code 638 = .ok (.iadd, 1) := by decide +kernel
theorem d_law_639 : decode code 639 = .ok (.iaload, 1) := by decide +kernel
theorem d_law_640 : decode code 640 = .ok (.invokevirtual 75, 3) := by decide +kernel
theorem d_law_643 : decode code 643 = .ok (.aload_n 2, 1) := by decide +kernel
theorem d_law_644 : decode code 644 = .ok (.aload_n 0, 1) := by decide +kernel
theorem d_law_645 : decode code 645 = .ok (.iload_n 3, 1) := by decide +kernel
theorem d_law_646 : decode code 646 = .ok (.iconst 1, 1) := by decide +kernel
theorem d_law_647 : decode code 647 = .ok (.iadd, 1) := by decide +kernel
theorem d_law_648 : decode code 648 = .ok (.iaload, 1) := by decide +kernel
theorem d_law_649 : decode code 649 = .ok (.aload_n 0, 1) := by decide +kernel
theorem d_law_650 : decode code 650 = .ok (.iload_n 3, 1) := by decide +kernel
theorem d_law_651 : decode code 651 = .ok (.iconst 2, 1) := by decide +kernel
theorem d_law_652 : decode code 652 = .ok (.iadd, 1) := by decide +kernel
theorem d_law_653 : decode code 653 = .ok (.iaload, 1) := by decide +kernel
theorem d_law_654 : decode code 654 = .ok (.aload_n 0, 1) := by decide +kernel
theorem d_law_655 : decode code 655 = .ok (.iload_n 3, 1) := by decide +kernel
theorem d_law_656 : decode code 656 = .ok (.iconst 3, 1) := by decide +kernel
theorem d_law_657 : decode code 657 = .ok (.iadd, 1) := by decide +kernel
theorem d_law_658 : decode code 658 = .ok (.iaload, 1) := by decide +kernel
theorem d_law_659 : decode code 659 = .ok (.invokevirtual 78, 3) := by decide +kernel
theorem d_law_662 : decode code 662 = .ok (.if_icmp .eq 581, 3) := by decide +kernel
theorem d_law_665 : decode code 665 = .ok (.iconst 0, 1) := by decide +kernel
theorem d_law_666 : decode code 666 = .ok (.ireturn, 1) := by decide +kernel
theorem d_law_667 : decode code 667 = .ok (.aload_n 1, 1) := by decide +kernel
theorem d_law_668 : decode code 668 = .ok (.aload_n 0, 1) := by decide +kernel
theorem d_law_669 : decode code 669 = .ok (.iload_n 3, 1) := by decide +kernel
theorem d_law_670 : decode code 670 = .ok (.iconst 1, 1) := by decide +kernel
theorem d_law_671 : decode code 671 = .ok (.iadd, 1) := by decide +kernel
theorem d_law_672 : decode code 672 = .ok (.iaload, 1) := by decide +kernel
theorem d_law_673 : decode code 673 = .ok (.invokevirtual 79, 3) := by decide +kernel
theorem d_law_676 : decode code 676 = .ok (.aload_n 2, 1) := by decide +kernel
theorem d_law_677 : decode code 677 = .ok (.aload_n 0, 1) := by decide +kernel
theorem d_law_678 : decode code 678 = .ok (.iload_n 3, 1) := by decide +kernel
theorem d_law_679 : decode code 679 = .ok (.iconst 1, 1) := by decide +kernel
theorem d_law_680 : decode code 680 = .ok (.iadd, 1) := by decide +kernel
theorem d_law_681 : decode code 681 = .ok (.iaload, 1) := by decide +kernel
theorem d_law_682 : decode code 682 = .ok (.invokevirtual 82, 3) := by decide +kernel
theorem d_law_685 : decode code 685 = .ok (.if_icmp .eq 558, 3) := by decide +kernel
theorem d_law_688 : decode code 688 = .ok (.iconst 0, 1) := by decide +kernel
theorem d_law_689 : decode code 689 = .ok (.ireturn, 1) := by decide +kernel
theorem d_law_690 : decode code 690 = .ok (.aload_n 1, 1) := by decide +kernel
theorem d_law_691 : decode code 691 = .ok (.aload_n 0, 1) := by decide +kernel
theorem d_law_692 : decode code 692 = .ok (.iload_n 3, 1) := by decide +kernel
theorem d_law_693 : decode code 693 = .ok (.iconst 1, 1) := by decide +kernel
theorem d_law_694 : decode code 694 = .ok (.iadd, 1) := by decide +kernel
theorem d_law_695 : decode code 695 = .ok (.iaload, 1) := by decide +kernel
theorem d_law_696 : decode code 696 = .ok (.aload_n 0, 1) := by decide +kernel
theorem d_law_697 : decode code 697 = .ok (.iload_n 3, 1) := by decide +kernel
theorem d_law_698 : decode code 698 = .ok (.iconst 2, 1) := by decide +kernel
theorem d_law_699 : decode code 699 = .ok (.iadd, 1) := by decide +kernel
theorem d_law_700 : decode code 700 = .ok (.iaload, 1) := by decide +kernel
theorem d_law_701 : decode code 701 = .ok (.invokevirtual 83, 3) := by decide +kernel
theorem d_law_704 : decode code 704 = .ok (.aload_n 2, 1) := by decide +kernel
theorem d_law_705 : decode code 705 = .ok (.aload_n 0, 1) := by decide +kernel
theorem d_law_706 : decode code 706 = .ok (.iload_n 3, 1) := by decide +kernel
theorem d_law_707 : decode code 707 = .ok (.iconst 1, 1) := by decide +kernel
theorem d_law_708 : decode code 708 = .ok (.iadd, 1) := by decide +kernel
theorem d_law_709 : decode code 709 = .ok (.iaload, 1) := by decide +kernel
theorem d_law_710 : decode code 710 = .ok (.aload_n 0, 1) := by decide +kernel
theorem d_law_711 : decode code 711 = .ok (.iload_n 3, 1) := by decide +kernel
theorem d_law_712 : decode code 712 = .ok (.iconst 2, 1) := by decide +kernel
theorem d_law_713 : decode code 713 = .ok (.iadd, 1) := by decide +kernel
theorem d_law_714 : decode code 714 = .ok (.iaload, 1) := by decide +kernel
theorem d_law_715 : decode code 715 = .ok (.invokevirtual 86, 3) := by decide +kernel
theorem d_law_718 : decode code 718 = .ok (.if_icmp .eq 525, 3) := by decide +kernel
theorem d_law_721 : decode code 721 = .ok (.iconst 0, 1) := by decide +kernel
theorem d_law_722 : decode code 722 = .ok (.ireturn, 1) := by decide +kernel
theorem d_law_723 : decode code 723 = .ok (.aload_n 1, 1) := by decide +kernel
theorem d_law_724 : decode code 724 = .ok (.aload_n 0, 1) := by decide +kernel
theorem d_law_725 : decode code 725 = .ok (.iload_n 3, 1) := by decide +kernel
theorem d_law_726 : decode code 726 = .ok (.iconst 1, 1) := by decide +kernel
theorem d_law_727 : decode code 727 = .ok (.iadd, 1) := by decide +kernel
theorem d_law_728 : decode code 728 = .ok (.iaload, 1) := by decide +kernel
theorem d_law_729 : decode code 729 = .ok (.aload_n 0, 1) := by decide +kernel
theorem d_law_730 : decode code 730 = .ok (.iload_n 3, 1) := by decide +kernel
theorem d_law_731 : decode code 731 = .ok (.iconst 2, 1) := by decide +kernel
theorem d_law_732 : decode code 732 = .ok (.iadd, 1) := by decide +kernel
theorem d_law_733 : decode code 733 = .ok (.iaload, 1) := by decide +kernel
theorem d_law_734 : decode code 734 = .ok (.aload_n 0, 1) := by decide +kernel
theorem d_law_735 : decode code 735 = .ok (.iload_n 3, 1) := by decide +kernel
theorem d_law_736 : decode code 736 = .ok (.iconst 3, 1) := by decide +kernel
theorem d_law_737 : decode code 737 = .ok (.iadd, 1) := by decide +kernel
theorem d_law_738 : decode code 738 = .ok (.iaload, 1) := by decide +kernel
theorem d_law_739 : decode code 739 = .ok (.invokevirtual 87, 3) := by decide +kernel
theorem d_law_742 : decode code 742 = .ok (.aload_n 2, 1) := by decide +kernel
theorem d_law_743 : decode code 743 = .ok (.aload_n 0, 1) := by decide +kernel
theorem d_law_744 : decode code 744 = .ok (.iload_n 3, 1) := by decide +kernel
theorem d_law_745 : decode code 745 = .ok (.iconst 1, 1) := by decide +kernel
theorem d_law_746 : decode code 746 = .ok (.iadd, 1) := by decide +kernel
theorem d_law_747 : decode code 747 = .ok (.iaload, 1) := by decide +kernel
theorem d_law_748 : decode code 748 = .ok (.aload_n 0, 1) := by decide +kernel
theorem d_law_749 : decode code 749 = .ok (.iload_n 3, 1) := by decide +kernel
theorem d_law_750 : decode code 750 = .ok (.iconst 2, 1) := by decide +kernel
theorem d_law_751 : decode code 751 = .ok (.iadd, 1) := by decide +kernel
theorem d_law_752 : decode code 752 = .ok (.iaload, 1) := by decide +kernel
theorem d_law_753 : decode code 753 = .ok (.aload_n 0, 1) := by decide +kernel
theorem d_law_754 : decode code 754 = .ok (.iload_n 3, 1) := by decide +kernel
theorem d_law_755 : decode code 755 = .ok (.iconst 3, 1) := by decide +kernel
theorem d_law_756 : decode code 756 = .ok (.iadd, 1) := by decide +kernel
theorem d_law_757 : decode code 757 = .ok (.iaload, 1) := by decide +kernel
theorem d_law_758 : decode code 758 = .ok (.invokevirtual 90, 3) := by decide +kernel
theorem d_law_761 : decode code 761 = .ok (.if_icmp .eq 482, 3) := by decide +kernel
theorem d_law_764 : decode code 764 = .ok (.iconst 0, 1) := by decide +kernel
theorem d_law_765 : decode code 765 = .ok (.ireturn, 1) := by decide +kernel
theorem d_law_766 : decode code 766 = .ok (.aload_n 1, 1) := by decide +kernel
theorem d_law_767 : decode code 767 = .ok (.aload_n 0, 1) := by decide +kernel
theorem d_law_768 : decode code 768 = .ok (.iload_n 3, 1) := by decide +kernel
theorem d_law_769 : decode code 769 = .ok (.iconst 1, 1) := by decide +kernel
theorem d_law_770 : decode code 770 = .ok (.iadd, 1) := by decide +kernel
theorem d_law_771 : decode code 771 = .ok (.iaload, 1) := by decide +kernel
theorem d_law_772 : decode code 772 = .ok (.invokevirtual 91, 3) := by decide +kernel
theorem d_law_775 : decode code 775 = .ok (.aload_n 2, 1) := by decide +kernel
theorem d_law_776 : decode code 776 = .ok (.aload_n 0, 1) := by decide +kernel
theorem d_law_777 : decode code 777 = .ok (.iload_n 3, 1) := by decide +kernel
theorem d_law_778 : decode code 778 = .ok (.iconst 1, 1) := by decide +kernel
theorem d_law_779 : decode code 779 = .ok (.iadd, 1) := by decide +kernel
theorem d_law_780 : decode code 780 = .ok (.iaload, 1) := by decide +kernel
theorem d_law_781 : decode code 781 = .ok (.invokevirtual 94, 3) := by decide +kernel
theorem d_law_784 : decode code 784 = .ok (.if_icmp .eq 459, 3) := by decide +kernel
theorem d_law_787 : decode code 787 = .ok (.iconst 0, 1) := by decide +kernel
theorem d_law_788 : decode code 788 = .ok (.ireturn, 1) := by decide +kernel
theorem d_law_789 : decode code 789 = .ok (.aload_n 1, 1) := by decide +kernel
theorem d_law_790 : decode code 790 = .ok (.aload_n 0, 1) := by decide +kernel
theorem d_law_791 : decode code 791 = .ok (.iload_n 3, 1) := by decide +kernel
theorem d_law_792 : decode code 792 = .ok (.iconst 1, 1) := by decide +kernel
theorem d_law_793 : decode code 793 = .ok (.iadd, 1) := by decide +kernel
theorem d_law_794 : decode code 794 = .ok (.iaload, 1) := by decide +kernel
theorem d_law_795 : decode code 795 = .ok (.invokevirtual 95, 3) := by decide +kernel
theorem d_law_798 : decode code 798 = .ok (.aload_n 2, 1) := by decide +kernel
theorem d_law_799 : decode code 799 = .ok (.aload_n 0, 1) := by decide +kernel
theorem d_law_800 : decode code 800 = .ok (.iload_n 3, 1) := by decide +kernel
theorem d_law_801 : decode code 801 = .ok (.iconst 1, 1) := by decide +kernel
theorem d_law_802 : decode code 802 = .ok (.iadd, 1) := by decide +kernel
theorem d_law_803 : decode code 803 = .ok (.iaload, 1) := by decide +kernel
theorem d_law_804 : decode code 804 = .ok (.invokevirtual 98, 3) := by decide +kernel
theorem d_law_807 : decode code 807 = .ok (.if_icmp .eq 436, 3) := by decide +kernel
theorem d_law_810 : decode code 810 = .ok (.iconst 0, 1) := by decide +kernel
theorem d_law_811 : decode code 811 = .ok (.ireturn, 1) := by decide +kernel
theorem d_law_812 : decode code 812 = .ok (.aload_n 1, 1) := by decide +kernel
theorem d_law_813 : decode code 813 = .ok (.aload_n 0, 1) := by decide +kernel
theorem d_law_814 : decode code 814 = .ok (.iload_n 3, 1) := by decide +kernel
theorem d_law_815 : decode code 815 = .ok (.iconst 1, 1) := by decide +kernel
theorem d_law_816 : decode code 816 = .ok (.iadd, 1) := by decide +kernel
theorem d_law_817 : decode code 817 = .ok (.iaload, 1) := by decide +kernel
theorem d_law_818 : decode code 818 = .ok (.aload_n 0, 1) := by decide +kernel
theorem d_law_819 : decode code 819 = .ok (.iload_n 3, 1) := by decide +kernel
theorem d_law_820 : decode code 820 = .ok (.iconst 2, 1) := by decide +kernel
theorem d_law_821 : decode code 821 = .ok (.iadd, 1) := by decide +kernel
theorem d_law_822 : decode code 822 = .ok (.iaload, 1) := by decide +kernel
theorem d_law_823 : decode code 823 = .ok (.invokevirtual 99, 3) := by decide +kernel
theorem d_law_826 : decode code 826 = .ok (.aload_n 2, 1) := by decide +kernel
theorem d_law_827 : decode code 827 = .ok (.aload_n 0, 1) := by decide +kernel
theorem d_law_828 : decode code 828 = .ok (.iload_n 3, 1) := by decide +kernel
theorem d_law_829 : decode code 829 = .ok (.iconst 1, 1) := by decide +kernel
theorem d_law_830 : decode code 830 = .ok (.iadd, 1) := by decide +kernel
theorem d_law_831 : decode code 831 = .ok (.iaload, 1) := by decide +kernel
theorem d_law_832 : decode code 832 = .ok (.aload_n 0, 1) := by decide +kernel
theorem d_law_833 : decode code 833 = .ok (.iload_n 3, 1) := by decide +kernel
theorem d_law_834 : decode code 834 = .ok (.iconst 2, 1) := by decide +kernel
theorem d_law_835 : decode code 835 = .ok (.iadd, 1) := by decide +kernel
theorem d_law_836 : decode code 836 = .ok (.iaload, 1) := by decide +kernel
theorem d_law_837 : decode code 837 = .ok (.invokevirtual 102, 3) := by decide +kernel
theorem d_law_840 : decode code 840 = .ok (.if_icmp .eq 403, 3) := by decide +kernel
theorem d_law_843 : decode code 843 = .ok (.iconst 0, 1) := by decide +kernel
theorem d_law_844 : decode code 844 = .ok (.ireturn, 1) := by decide +kernel
theorem d_law_845 : decode code 845 = .ok (.aload_n 1, 1) := by decide +kernel
theorem d_law_846 : decode code 846 = .ok (.aload_n 0, 1) := by decide +kernel
theorem d_law_847 : decode code 847 = .ok (.iload_n 3, 1) := by decide +kernel
theorem d_law_848 : decode code 848 = .ok (.iconst 1, 1) := by decide +kernel
theorem d_law_849 : decode code 849 = .ok (.iadd, 1) := by decide +kernel
theorem d_law_850 : decode code 850 = .ok (.iaload, 1) := by decide +kernel
theorem d_law_851 : decode code 851 = .ok (.aload_n 0, 1) := by decide +kernel
theorem d_law_852 : decode code 852 = .ok (.iload_n 3, 1) := by decide +kernel
theorem d_law_853 : decode code 853 = .ok (.iconst 2, 1) := by decide +kernel
theorem d_law_854 : decode code 854 = .ok (.iadd, 1) := by decide +kernel
theorem d_law_855 : decode code 855 = .ok (.iaload, 1) := by decide +kernel
theorem d_law_856 : decode code 856 = .ok (.aload_n 0, 1) := by decide +kernel
theorem d_law_857 : decode code 857 = .ok (.iload_n 3, 1) := by decide +kernel
theorem d_law_858 : decode code 858 = .ok (.iconst 3, 1) := by decide +kernel
theorem d_law_859 : decode code 859 = .ok (.iadd, 1) := by decide +kernel
theorem d_law_860 : decode code 860 = .ok (.iaload, 1) := by decide +kernel
theorem d_law_861 : decode code 861 = .ok (.aload_n 0, 1) := by decide +kernel
theorem d_law_862 : decode code 862 = .ok (.iload_n 3, 1) := by decide +kernel
theorem d_law_863 : decode code 863 = .ok (.iconst 4, 1) := by decide +kernel
theorem d_law_864 : decode code 864 = .ok (.iadd, 1) := by decide +kernel
theorem d_law_865 : decode code 865 = .ok (.iaload, 1) := by decide +kernel
theorem d_law_866 : decode code 866 = .ok (.invokevirtual 103, 3) := by decide +kernel
theorem d_law_869 : decode code 869 = .ok (.aload_n 2, 1) := by decide +kernel
theorem d_law_870 : decode code 870 = .ok (.aload_n 0, 1) := by decide +kernel
theorem d_law_871 : decode code 871 = .ok (.iload_n 3, 1) := by decide +kernel
theorem d_law_872 : decode code 872 = .ok (.iconst 1, 1) := by decide +kernel
theorem d_law_873 : decode code 873 = .ok (.iadd, 1) := by decide +kernel
theorem d_law_874 : decode code 874 = .ok (.iaload, 1) := by decide +kernel
theorem d_law_875 : decode code 875 = .ok (.aload_n 0, 1) := by decide +kernel
theorem d_law_876 : decode code 876 = .ok (.iload_n 3, 1) := by decide +kernel
theorem d_law_877 : decode code 877 = .ok (.iconst 2, 1) := by decide +kernel
theorem d_law_878 : decode code 878 = .ok (.iadd, 1) := by decide +kernel
theorem d_law_879 : decode code 879 = .ok (.iaload, 1) := by decide +kernel
theorem d_law_880 : decode code 880 = .ok (.aload_n 0, 1) := by decide +kernel
theorem d_law_881 : decode code 881 = .ok (.iload_n 3, 1) := by decide +kernel
theorem d_law_882 : decode code 882 = .ok (.iconst 3, 1) := by decide +kernel
theorem d_law_883 : decode code 883 = .ok (.iadd, 1) := by decide +kernel
theorem d_law_884 : decode code 884 = .ok (.iaload, 1) := by decide +kernel
theorem d_law_885 : decode code 885 = .ok (.aload_n 0, 1) := by decide +kernel
theorem d_law_886 : decode code 886 = .ok (.iload_n 3, 1) := by decide +kernel
theorem d_law_887 : decode code 887 = .ok (.iconst 4, 1) := by decide +kernel
theorem d_law_888 : decode code 888 = .ok (.iadd, 1) := by decide +kernel
theorem d_law_889 : decode code 889 = .ok (.iaload, 1) := by decide +kernel
theorem d_law_890 : decode code 890 = .ok (.invokevirtual 106, 3) := by decide +kernel
theorem d_law_893 : decode code 893 = .ok (.if_icmp .eq 350, 3) := by decide +kernel
theorem d_law_896 : decode code 896 = .ok (.iconst 0, 1) := by decide +kernel
theorem d_law_897 : decode code 897 = .ok (.ireturn, 1) := by decide +kernel
theorem d_law_898 : decode code 898 = .ok (.aload_n 1, 1) := by decide +kernel
theorem d_law_899 : decode code 899 = .ok (.aload_n 0, 1) := by decide +kernel
theorem d_law_900 : decode code 900 = .ok (.iload_n 3, 1) := by decide +kernel
theorem d_law_901 : decode code 901 = .ok (.iconst 1, 1) := by decide +kernel
theorem d_law_902 : decode code 902 = .ok (.iadd, 1) := by decide +kernel
theorem d_law_903 : decode code 903 = .ok (.iaload, 1) := by decide +kernel
theorem d_law_904 : decode code 904 = .ok (.aload_n 0, 1) := by decide +kernel
theorem d_law_905 : decode code 905 = .ok (.iload_n 3, 1) := by decide +kernel
theorem d_law_906 : decode code 906 = .ok (.iconst 2, 1) := by decide +kernel
theorem d_law_907 : decode code 907 = .ok (.iadd, 1) := by decide +kernel
theorem d_law_908 : decode code 908 = .ok (.iaload, 1) := by decide +kernel
theorem d_law_909 : decode code 909 = .ok (.invokevirtual 107, 3) := by decide +kernel
theorem d_law_912 : decode code 912 = .ok (.aload_n 2, 1) := by decide +kernel
theorem d_law_913 : decode code 913 = .ok (.aload_n 0, 1) := by decide +kernel
theorem d_law_914 : decode code 914 = .ok (.iload_n 3, 1) := by decide +kernel
theorem d_law_915 : decode code 915 = .ok (.iconst 1, 1) := by decide +kernel
theorem d_law_916 : decode code 916 = .ok (.iadd, 1) := by decide +kernel
theorem d_law_917 : decode code 917 = .ok (.iaload, 1) := by decide +kernel
theorem d_law_918 : decode code 918 = .ok (.aload_n 0, 1) := by decide +kernel
theorem d_law_919 : decode code 919 = .ok (.iload_n 3, 1) := by decide +kernel
theorem d_law_920 : decode code 920 = .ok (.iconst 2, 1) := by decide +kernel
theorem d_law_921 : decode code 921 = .ok (.iadd, 1) := by decide +kernel
theorem d_law_922 : decode code 922 = .ok (.iaload, 1) := by decide +kernel
theorem d_law_923 : decode code 923 = .ok (.invokevirtual 110, 3) := by decide +kernel
theorem d_law_926 : decode code 926 = .ok (.if_icmp .eq 317, 3) := by decide +kernel
theorem d_law_929 : decode code 929 = .ok (.iconst 0, 1) := by decide +kernel
theorem d_law_930 : decode code 930 = .ok (.ireturn, 1) := by decide +kernel
theorem d_law_931 : decode code 931 = .ok (.aload_n 1, 1) := by decide +kernel
theorem d_law_932 : decode code 932 = .ok (.aload_n 0, 1) := by decide +kernel
theorem d_law_933 : decode code 933 = .ok (.iload_n 3, 1) := by decide +kernel
theorem d_law_934 : decode code 934 = .ok (.iconst 1, 1) := by decide +kernel
theorem d_law_935 : decode code 935 = .ok (.iadd, 1) := by decide +kernel
theorem d_law_936 : decode code 936 = .ok (.iaload, 1) := by decide +kernel
theorem d_law_937 : decode code 937 = .ok (.aload_n 0, 1) := by decide +kernel
theorem d_law_938 : decode code 938 = .ok (.iload_n 3, 1) := by decide +kernel
theorem d_law_939 : decode code 939 = .ok (.iconst 2, 1) := by decide +kernel
theorem d_law_940 : decode code 940 = .ok (.iadd, 1) := by decide +kernel
theorem d_law_941 : decode code 941 = .ok (.iaload, 1) := by decide +kernel
theorem d_law_942 : decode code 942 = .ok (.aload_n 0, 1) := by decide +kernel
theorem d_law_943 : decode code 943 = .ok (.iload_n 3, 1) := by decide +kernel
theorem d_law_944 : decode code 944 = .ok (.iconst 3, 1) := by decide +kernel
theorem d_law_945 : decode code 945 = .ok (.iadd, 1) := by decide +kernel
theorem d_law_946 : decode code 946 = .ok (.iaload, 1) := by decide +kernel
theorem d_law_947 : decode code 947 = .ok (.invokevirtual 111, 3) := by decide +kernel
theorem d_law_950 : decode code 950 = .ok (.aload_n 2, 1) := by decide +kernel
theorem d_law_951 : decode code 951 = .ok (.aload_n 0, 1) := by decide +kernel
theorem d_law_952 : decode code 952 = .ok (.iload_n 3, 1) := by decide +kernel
theorem d_law_953 : decode code 953 = .ok (.iconst 1, 1) := by decide +kernel
theorem d_law_954 : decode code 954 = .ok (.iadd, 1) := by decide +kernel
theorem d_law_955 : decode code 955 = .ok (.iaload, 1) := by decide +kernel
theorem d_law_956 : decode code 956 = .ok (.aload_n 0, 1) := by decide +kernel
theorem d_law_957 : decode code 957 = .ok (.iload_n 3, 1) := by decide +kernel
theorem d_law_958 : decode code 958 = .ok (.iconst 2, 1) := by decide +kernel
theorem d_law_959 : decode code 959 = .ok (.iadd, 1) := by decide +kernel
theorem d_law_960 : decode code 960 = .ok (.iaload, 1) := by decide +kernel
theorem d_law_961 : decode code 961 = .ok (.aload_n 0, 1) := by decide +kernel
theorem d_law_962 : decode code 962 = .ok (.iload_n 3, 1) := by decide +kernel
theorem d_law_963 : decode code 963 = .ok (.iconst 3, 1) := by decide +kernel
theorem d_law_964 : decode code 964 = .ok (.iadd, 1) := by decide +kernel
theorem d_law_965 : decode code 965 = .ok (.iaload, 1) := by decide +kernel
theorem d_law_966 : decode code 966 = .ok (.invokevirtual 114, 3) := by decide +kernel
theorem d_law_969 : decode code 969 = .ok (.if_icmp .eq 274, 3) := by decide +kernel
theorem d_law_972 : decode code 972 = .ok (.iconst 0, 1) := by decide +kernel
theorem d_law_973 : decode code 973 = .ok (.ireturn, 1) := by decide +kernel
theorem d_law_974 : decode code 974 = .ok (.aload_n 1, 1) := by decide +kernel
theorem d_law_975 : decode code 975 = .ok (.aload_n 0, 1) := by decide +kernel
theorem d_law_976 : decode code 976 = .ok (.iload_n 3, 1) := by decide +kernel
theorem d_law_977 : decode code 977 = .ok (.iconst 1, 1) := by decide +kernel
theorem d_law_978 : decode code 978 = .ok (.iadd, 1) := by decide +kernel
theorem d_law_979 : decode code 979 = .ok (.iaload, 1) := by decide +kernel
theorem d_law_980 : decode code 980 = .ok (.aload_n 0, 1) := by decide +kernel
theorem d_law_981 : decode code 981 = .ok (.iload_n 3, 1) := by decide +kernel
theorem d_law_982 : decode code 982 = .ok (.iconst 2, 1) := by decide +kernel
theorem d_law_983 : decode code 983 = .ok (.iadd, 1) := by decide +kernel
theorem d_law_984 : decode code 984 = .ok (.iaload, 1) := by decide +kernel
theorem d_law_985 : decode code 985 = .ok (.aload_n 0, 1) := by decide +kernel
theorem d_law_986 : decode code 986 = .ok (.iload_n 3, 1) := by decide +kernel
theorem d_law_987 : decode code 987 = .ok (.iconst 3, 1) := by decide +kernel
theorem d_law_988 : decode code 988 = .ok (.iadd, 1) := by decide +kernel
theorem d_law_989 : decode code 989 = .ok (.iaload, 1) := by decide +kernel
theorem d_law_990 : decode code 990 = .ok (.invokevirtual 115, 3) := by decide +kernel
theorem d_law_993 : decode code 993 = .ok (.aload_n 2, 1) := by decide +kernel
theorem d_law_994 : decode code 994 = .ok (.aload_n 0, 1) := by decide +kernel
theorem d_law_995 : decode code 995 = .ok (.iload_n 3, 1) := by decide +kernel
theorem d_law_996 : decode code 996 = .ok (.iconst 1, 1) := by decide +kernel
theorem d_law_997 : decode code 997 = .ok (.iadd, 1) := by decide +kernel
theorem d_law_998 : decode code 998 = .ok (.iaload, 1) := by decide +kernel
theorem d_law_999 : decode code 999 = .ok (.aload_n 0, 1) := by decide +kernel
theorem d_law_1000 : decode code 1000 = .ok (.iload_n 3, 1) := by decide +kernel
theorem d_law_1001 : decode code 1001 = .ok (.iconst 2, 1) := by decide +kernel
theorem d_law_1002 : decode code 1002 = .ok (.iadd, 1) := by decide +kernel
theorem d_law_1003 : decode code 1003 = .ok (.iaload, 1) := by decide +kernel
theorem d_law_1004 : decode code 1004 = .ok (.aload_n 0, 1) := by decide +kernel
theorem d_law_1005 : decode code 1005 = .ok (.iload_n 3, 1) := by decide +kernel
theorem d_law_1006 : decode code 1006 = .ok (.iconst 3, 1) := by decide +kernel
theorem d_law_1007 : decode code 1007 = .ok (.iadd, 1) := by decide +kernel
theorem d_law_1008 : decode code 1008 = .ok (.iaload, 1) := by decide +kernel
theorem d_law_1009 : decode code 1009 = .ok (.invokevirtual 118, 3) := by decide +kernel
theorem d_law_1012 : decode code 1012 = .ok (.if_icmp .eq 231, 3) := by decide +kernel
theorem d_law_1015 : decode code 1015 = .ok (.iconst 0, 1) := by decide +kernel
theorem d_law_1016 : decode code 1016 = .ok (.ireturn, 1) := by decide +kernel
theorem d_law_1017 : decode code 1017 = .ok (.aload_n 1, 1) := by decide +kernel
theorem d_law_1018 : decode code 1018 = .ok (.aload_n 0, 1) := by decide +kernel
theorem d_law_1019 : decode code 1019 = .ok (.iload_n 3, 1) := by decide +kernel
theorem d_law_1020 : decode code 1020 = .ok (.iconst 1, 1) := by decide +kernel
theorem d_law_1021 : decode code 1021 = .ok (.iadd, 1) := by decide +kernel
theorem d_law_1022 : decode code 1022 = .ok (.iaload, 1) := by decide +kernel
theorem d_law_1023 : decode code 1023 = .ok (.aload_n 0, 1) := by decide +kernel
theorem d_law_1024 : decode code 1024 = .ok (.iload_n 3, 1) := by decide +kernel
theorem d_law_1025 : decode code 1025 = .ok (.iconst 2, 1) := by decide +kernel
theorem d_law_1026 : decode code 1026 = .ok (.iadd, 1) := by decide +kernel
theorem d_law_1027 : decode code 1027 = .ok (.iaload, 1) := by decide +kernel
theorem d_law_1028 : decode code 1028 = .ok (.aload_n 0, 1) := by decide +kernel
theorem d_law_1029 : decode code 1029 = .ok (.iload_n 3, 1) := by decide +kernel
theorem d_law_1030 : decode code 1030 = .ok (.iconst 3, 1) := by decide +kernel
theorem d_law_1031 : decode code 1031 = .ok (.iadd, 1) := by decide +kernel
theorem d_law_1032 : decode code 1032 = .ok (.iaload, 1) := by decide +kernel
theorem d_law_1033 : decode code 1033 = .ok (.aload_n 0, 1) := by decide +kernel
theorem d_law_1034 : decode code 1034 = .ok (.iload_n 3, 1) := by decide +kernel
theorem d_law_1035 : decode code 1035 = .ok (.iconst 4, 1) := by decide +kernel
theorem d_law_1036 : decode code 1036 = .ok (.iadd, 1) := by decide +kernel
theorem d_law_1037 : decode code 1037 = .ok (.iaload, 1) := by decide +kernel
theorem d_law_1038 : decode code 1038 = .ok (.invokevirtual 119, 3) := by decide +kernel
theorem d_law_1041 : decode code 1041 = .ok (.aload_n 2, 1) := by decide +kernel
theorem d_law_1042 : decode code 1042 = .ok (.aload_n 0, 1) := by decide +kernel
theorem d_law_1043 : decode code 1043 = .ok (.iload_n 3, 1) := by decide +kernel
theorem d_law_1044 : decode code 1044 = .ok (.iconst 1, 1) := by decide +kernel
theorem d_law_1045 : decode code 1045 = .ok (.iadd, 1) := by decide +kernel
theorem d_law_1046 : decode code 1046 = .ok (.iaload, 1) := by decide +kernel
theorem d_law_1047 : decode code 1047 = .ok (.aload_n 0, 1) := by decide +kernel
theorem d_law_1048 : decode code 1048 = .ok (.iload_n 3, 1) := by decide +kernel
theorem d_law_1049 : decode code 1049 = .ok (.iconst 2, 1) := by decide +kernel
theorem d_law_1050 : decode code 1050 = .ok (.iadd, 1) := by decide +kernel
theorem d_law_1051 : decode code 1051 = .ok (.iaload, 1) := by decide +kernel
theorem d_law_1052 : decode code 1052 = .ok (.aload_n 0, 1) := by decide +kernel
theorem d_law_1053 : decode code 1053 = .ok (.iload_n 3, 1) := by decide +kernel
theorem d_law_1054 : decode code 1054 = .ok (.iconst 3, 1) := by decide +kernel
theorem d_law_1055 : decode code 1055 = .ok (.iadd, 1) := by decide +kernel
theorem d_law_1056 : decode code 1056 = .ok (.iaload, 1) := by decide +kernel
theorem d_law_1057 : decode code 1057 = .ok (.aload_n 0, 1) := by decide +kernel
theorem d_law_1058 : decode code 1058 = .ok (.iload_n 3, 1) := by decide +kernel
theorem d_law_1059 : decode code 1059 = .ok (.iconst 4, 1) := by decide +kernel
theorem d_law_1060 : decode code 1060 = .ok (.iadd, 1) := by decide +kernel
theorem d_law_1061 : decode code 1061 = .ok (.iaload, 1) := by decide +kernel
theorem d_law_1062 : decode code 1062 = .ok (.invokevirtual 122, 3) := by decide +kernel
theorem d_law_1065 : decode code 1065 = .ok (.if_icmp .eq 178, 3) := by decide +kernel
theorem d_law_1068 : decode code 1068 = .ok (.iconst 0, 1) := by decide +kernel
theorem d_law_1069 : decode code 1069 = .ok (.ireturn, 1) := by decide +kernel
theorem d_law_1070 : decode code 1070 = .ok (.aload_n 1, 1) := by decide +kernel
theorem d_law_1071 : decode code 1071 = .ok (.aload_n 0, 1) := by decide +kernel
theorem d_law_1072 : decode code 1072 = .ok (.iload_n 3, 1) := by decide +kernel
theorem d_law_1073 : decode code 1073 = .ok (.iconst 1, 1) := by decide +kernel
theorem d_law_1074 : decode code 1074 = .ok (.iadd, 1) := by decide +kernel
theorem d_law_1075 : decode code 1075 = .ok (.iaload, 1) := by decide +kernel
theorem d_law_1076 : decode code 1076 = .ok (.aload_n 0, 1) := by decide +kernel
theorem d_law_1077 : decode code 1077 = .ok (.iload_n 3, 1) := by decide +kernel
theorem d_law_1078 : decode code 1078 = .ok (.iconst 2, 1) := by decide +kernel
theorem d_law_1079 : decode code 1079 = .ok (.iadd, 1) := by decide +kernel
theorem d_law_1080 : decode code 1080 = .ok (.iaload, 1) := by decide +kernel
theorem d_law_1081 : decode code 1081 = .ok (.aload_n 0, 1) := by decide +kernel
theorem d_law_1082 : decode code 1082 = .ok (.iload_n 3, 1) := by decide +kernel
theorem d_law_1083 : decode code 1083 = .ok (.iconst 3, 1) := by decide +kernel
theorem d_law_1084 : decode code 1084 = .ok (.iadd, 1) := by decide +kernel
theorem d_law_1085 : decode code 1085 = .ok (.iaload, 1) := by decide +kernel
theorem d_law_1086 : decode code 1086 = .ok (.invokevirtual 123, 3) := by decide +kernel
theorem d_law_1089 : decode code 1089 = .ok (.aload_n 2, 1) := by decide +kernel
theorem d_law_1090 : decode code 1090 = .ok (.aload_n 0, 1) := by decide +kernel
theorem d_law_1091 : decode code 1091 = .ok (.iload_n 3, 1) := by decide +kernel
theorem d_law_1092 : decode code 1092 = .ok (.iconst 1, 1) := by decide +kernel
theorem d_law_1093 : decode code 1093 = .ok (.iadd, 1) := by decide +kernel
theorem d_law_1094 : decode code 1094 = .ok (.iaload, 1) := by decide +kernel
theorem d_law_1095 : decode code 1095 = .ok (.aload_n 0, 1) := by decide +kernel
theorem d_law_1096 : decode code 1096 = .ok (.iload_n 3, 1) := by decide +kernel
theorem d_law_1097 : decode code 1097 = .ok (.iconst 2, 1) := by decide +kernel
theorem d_law_1098 : decode code 1098 = .ok (.iadd, 1) := by decide +kernel
theorem d_law_1099 : decode code 1099 = .ok (.iaload, 1) := by decide +kernel
theorem d_law_1100 : decode code 1100 = .ok (.aload_n 0, 1) := by decide +kernel
theorem d_law_1101 : decode code 1101 = .ok (.iload_n 3, 1) := by decide +kernel
theorem d_law_1102 : decode code 1102 = .ok (.iconst 3, 1) := by decide +kernel
theorem d_law_1103 : decode code 1103 = .ok (.iadd, 1) := by decide +kernel
theorem d_law_1104 : decode code 1104 = .ok (.iaload, 1) := by decide +kernel
theorem d_law_1105 : decode code 1105 = .ok (.invokevirtual 126, 3) := by decide +kernel
theorem d_law_1108 : decode code 1108 = .ok (.if_icmp .eq 135, 3) := by decide +kernel
theorem d_law_1111 : decode code 1111 = .ok (.iconst 0, 1) := by decide +kernel
theorem d_law_1112 : decode code 1112 = .ok (.ireturn, 1) := by decide +kernel
theorem d_law_1113 : decode code 1113 = .ok (.aload_n 1, 1) := by decide +kernel
theorem d_law_1114 : decode code 1114 = .ok (.aload_n 0, 1) := by decide +kernel
theorem d_law_1115 : decode code 1115 = .ok (.iload_n 3, 1) := by decide +kernel
theorem d_law_1116 : decode code 1116 = .ok (.iconst 1, 1) := by decide +kernel
theorem d_law_1117 : decode code 1117 = .ok (.iadd, 1) := by decide +kernel
theorem d_law_1118 : decode code 1118 = .ok (.iaload, 1) := by decide +kernel
theorem d_law_1119 : decode code 1119 = .ok (.invokevirtual 127, 3) := by decide +kernel
theorem d_law_1122 : decode code 1122 = .ok (.aload_n 2, 1) := by decide +kernel
theorem d_law_1123 : decode code 1123 = .ok (.aload_n 0, 1) := by decide +kernel
theorem d_law_1124 : decode code 1124 = .ok (.iload_n 3, 1) := by decide +kernel
theorem d_law_1125 : decode code 1125 = .ok (.iconst 1, 1) := by decide +kernel
theorem d_law_1126 : decode code 1126 = .ok (.iadd, 1) := by decide +kernel
theorem d_law_1127 : decode code 1127 = .ok (.iaload, 1) := by decide +kernel
theorem d_law_1128 : decode code 1128 = .ok (.invokevirtual 131, 3) := by decide +kernel
theorem d_law_1131 : decode code 1131 = .ok (.lcmp, 1) := by decide +kernel
theorem d_law_1132 : decode code 1132 = .ok (.ifCond .eq 111, 3) := by decide +kernel
theorem d_law_1135 : decode code 1135 = .ok (.iconst 0, 1) := by decide +kernel
theorem d_law_1136 : decode code 1136 = .ok (.ireturn, 1) := by decide +kernel
theorem d_law_1137 : decode code 1137 = .ok (.aload_n 1, 1) := by decide +kernel
theorem d_law_1138 : decode code 1138 = .ok (.aload_n 0, 1) := by decide +kernel
theorem d_law_1139 : decode code 1139 = .ok (.iload_n 3, 1) := by decide +kernel
theorem d_law_1140 : decode code 1140 = .ok (.iconst 1, 1) := by decide +kernel
theorem d_law_1141 : decode code 1141 = .ok (.iadd, 1) := by decide +kernel
theorem d_law_1142 : decode code 1142 = .ok (.iaload, 1) := by decide +kernel
theorem d_law_1143 : decode code 1143 = .ok (.invokevirtual 132, 3) := by decide +kernel
theorem d_law_1146 : decode code 1146 = .ok (.aload_n 2, 1) := by decide +kernel
theorem d_law_1147 : decode code 1147 = .ok (.aload_n 0, 1) := by decide +kernel
theorem d_law_1148 : decode code 1148 = .ok (.iload_n 3, 1) := by decide +kernel
theorem d_law_1149 : decode code 1149 = .ok (.iconst 1, 1) := by decide +kernel
theorem d_law_1150 : decode code 1150 = .ok (.iadd, 1) := by decide +kernel
theorem d_law_1151 : decode code 1151 = .ok (.iaload, 1) := by decide +kernel
theorem d_law_1152 : decode code 1152 = .ok (.invokevirtual 135, 3) := by decide +kernel
theorem d_law_1155 : decode code 1155 = .ok (.if_icmp .eq 88, 3) := by decide +kernel
theorem d_law_1158 : decode code 1158 = .ok (.iconst 0, 1) := by decide +kernel
theorem d_law_1159 : decode code 1159 = .ok (.ireturn, 1) := by decide +kernel
theorem d_law_1160 : decode code 1160 = .ok (.aload_n 1, 1) := by decide +kernel
theorem d_law_1161 : decode code 1161 = .ok (.aload_n 0, 1) := by decide +kernel
theorem d_law_1162 : decode code 1162 = .ok (.iload_n 3, 1) := by decide +kernel
theorem d_law_1163 : decode code 1163 = .ok (.iconst 1, 1) := by decide +kernel
theorem d_law_1164 : decode code 1164 = .ok (.iadd, 1) := by decide +kernel
theorem d_law_1165 : decode code 1165 = .ok (.iaload, 1) := by decide +kernel
theorem d_law_1166 : decode code 1166 = .ok (.invokevirtual 136, 3) := by decide +kernel
theorem d_law_1169 : decode code 1169 = .ok (.aload_n 2, 1) := by decide +kernel
theorem d_law_1170 : decode code 1170 = .ok (.aload_n 0, 1) := by decide +kernel
theorem d_law_1171 : decode code 1171 = .ok (.iload_n 3, 1) := by decide +kernel
theorem d_law_1172 : decode code 1172 = .ok (.iconst 1, 1) := by decide +kernel
theorem d_law_1173 : decode code 1173 = .ok (.iadd, 1) := by decide +kernel
theorem d_law_1174 : decode code 1174 = .ok (.iaload, 1) := by decide +kernel
theorem d_law_1175 : decode code 1175 = .ok (.invokevirtual 139, 3) := by decide +kernel
theorem d_law_1178 : decode code 1178 = .ok (.if_icmp .eq 65, 3) := by decide +kernel
theorem d_law_1181 : decode code 1181 = .ok (.iconst 0, 1) := by decide +kernel
theorem d_law_1182 : decode code 1182 = .ok (.ireturn, 1) := by decide +kernel
theorem d_law_1183 : decode code 1183 = .ok (.aload_n 1, 1) := by decide +kernel
theorem d_law_1184 : decode code 1184 = .ok (.aload_n 0, 1) := by decide +kernel
theorem d_law_1185 : decode code 1185 = .ok (.iload_n 3, 1) := by decide +kernel
theorem d_law_1186 : decode code 1186 = .ok (.iconst 1, 1) := by decide +kernel
theorem d_law_1187 : decode code 1187 = .ok (.iadd, 1) := by decide +kernel
theorem d_law_1188 : decode code 1188 = .ok (.iaload, 1) := by decide +kernel
theorem d_law_1189 : decode code 1189 = .ok (.invokevirtual 140, 3) := by decide +kernel
theorem d_law_1192 : decode code 1192 = .ok (.aload_n 2, 1) := by decide +kernel
theorem d_law_1193 : decode code 1193 = .ok (.aload_n 0, 1) := by decide +kernel
theorem d_law_1194 : decode code 1194 = .ok (.iload_n 3, 1) := by decide +kernel
theorem d_law_1195 : decode code 1195 = .ok (.iconst 1, 1) := by decide +kernel
theorem d_law_1196 : decode code 1196 = .ok (.iadd, 1) := by decide +kernel
theorem d_law_1197 : decode code 1197 = .ok (.iaload, 1) := by decide +kernel
theorem d_law_1198 : decode code 1198 = .ok (.invokevirtual 143, 3) := by decide +kernel
theorem d_law_1201 : decode code 1201 = .ok (.if_icmp .eq 42, 3) := by decide +kernel
theorem d_law_1204 : decode code 1204 = .ok (.iconst 0, 1) := by decide +kernel
theorem d_law_1205 : decode code 1205 = .ok (.ireturn, 1) := by decide +kernel
theorem d_law_1206 : decode code 1206 = .ok (.aload_n 1, 1) := by decide +kernel
theorem d_law_1207 : decode code 1207 = .ok (.aload_n 0, 1) := by decide +kernel
theorem d_law_1208 : decode code 1208 = .ok (.iload_n 3, 1) := by decide +kernel
theorem d_law_1209 : decode code 1209 = .ok (.iconst 1, 1) := by decide +kernel
theorem d_law_1210 : decode code 1210 = .ok (.iadd, 1) := by decide +kernel
theorem d_law_1211 : decode code 1211 = .ok (.iaload, 1) := by decide +kernel
theorem d_law_1212 : decode code 1212 = .ok (.invokevirtual 144, 3) := by decide +kernel
theorem d_law_1215 : decode code 1215 = .ok (.aload_n 2, 1) := by decide +kernel
theorem d_law_1216 : decode code 1216 = .ok (.aload_n 0, 1) := by decide +kernel
theorem d_law_1217 : decode code 1217 = .ok (.iload_n 3, 1) := by decide +kernel
theorem d_law_1218 : decode code 1218 = .ok (.iconst 1, 1) := by decide +kernel
theorem d_law_1219 : decode code 1219 = .ok (.iadd, 1) := by decide +kernel
theorem d_law_1220 : decode code 1220 = .ok (.iaload, 1) := by decide +kernel
theorem d_law_1221 : decode code 1221 = .ok (.invokevirtual 147, 3) := by decide +kernel
theorem d_law_1224 : decode code 1224 = .ok (.if_icmp .eq 19, 3) := by decide +kernel
theorem d_law_1227 : decode code 1227 = .ok (.iconst 0, 1) := by decide +kernel
theorem d_law_1228 : decode code 1228 = .ok (.ireturn, 1) := by decide +kernel
theorem d_law_1229 : decode code 1229 = .ok (.aload_n 1, 1) := by decide +kernel
theorem d_law_1230 : decode code 1230 = .ok (.invokevirtual 148, 3) := by decide +kernel
theorem d_law_1233 : decode code 1233 = .ok (.aload_n 2, 1) := by decide +kernel
theorem d_law_1234 : decode code 1234 = .ok (.invokevirtual 152, 3) := by decide +kernel
theorem d_law_1237 : decode code 1237 = .ok (.lcmp, 1) := by decide +kernel
theorem d_law_1238 : decode code 1238 = .ok (.ifCond .eq 5, 3) := by decide +kernel
theorem d_law_1241 : decode code 1241 = .ok (.iconst 0, 1) := by decide +kernel
theorem d_law_1242 : decode code 1242 = .ok (.ireturn, 1) := by decide +kernel
theorem d_law_1243 : decode code 1243 = .ok (.iinc 3 5, 3) := by decide +kernel
theorem d_law_1246 : decode code 1246 = .ok (.goto (-1228), 3) := by decide +kernel
theorem d_law_1249 : decode code 1249 = .ok (.iconst 1, 1) := by decide +kernel
theorem d_law_1250 : decode code 1250 = .ok (.ireturn, 1) := by decide +kernel
def okI (Rel : Mem → Mem → Prop) (f g : Option (Int32 × Mem)) : Prop := ∃ (r : Int32) (μ1 ν1 : Mem), f = some (r, μ1) ∧ g = some (r, ν1) ∧ Rel μ1 ν1
def okL (Rel : Mem → Mem → Prop) (f g : Option (Int64 × Mem)) : Prop := ∃ (r : Int64) (μ1 ν1 : Mem), f = some (r, μ1) ∧ g = some (r, ν1) ∧ Rel μ1 ν1
def okD (Rel : Mem → Mem → Prop) (μ : Mem) (f : Option Int64) (g : Option (Int64 × Mem)) : Prop := ∃ (r : Int64) (ν1 : Mem), f = some r ∧ g = some (r, ν1) ∧ Rel μ ν1
/-- what the pure parts show -/
def RelOK (Rel : Mem → Mem → Prop) : Prop :=
  (∀ μ ν : Mem, Rel μ ν → ∀ x1 : Int32, okI Rel (F_T_tent μ x1) (F_M_tent ν x1)) ∧
  (∀ μ ν : Mem, Rel μ ν → ∀ x1 x2 x3 x4 : Int32, okI Rel (F_T_peg μ x1 x2 x3 x4) (F_M_peg ν x1 x2 x3 x4)) ∧
  (∀ μ ν : Mem, Rel μ ν → ∀ x1 : Int32, okI Rel (F_T_wet μ x1) (F_M_wet ν x1)) ∧
  (∀ μ ν : Mem, Rel μ ν → ∀ x1 x2 : Int32, okI Rel (F_T_wall μ x1 (if x2 = 0 then 0 else 1)) (F_M_wall ν x1 (if x2 = 0 then 0 else 1))) ∧
  (∀ μ ν : Mem, Rel μ ν → ∀ x1 x2 : Int32, okI Rel (F_T_odds μ x1 x2) (F_M_odds ν x1 x2)) ∧
  (∀ μ ν : Mem, Rel μ ν → ∀ x1 : Int32, okI Rel (F_T_type μ x1) (F_M_type ν x1)) ∧
  (∀ μ ν : Mem, Rel μ ν → okI Rel (F_T_clear μ ) (F_M_clear ν )) ∧
  (∀ μ ν : Mem, Rel μ ν → okI Rel (F_T_read μ ) (F_M_read ν )) ∧
  (∀ μ ν : Mem, Rel μ ν → ∀ x1 x2 : Int32, okI Rel (F_T_gust μ x1 x2) (F_M_gust ν x1 x2)) ∧
  (∀ μ ν : Mem, Rel μ ν → ∀ x1 x2 : Int32, okI Rel (F_T_stand μ x1 (if x2 = 0 then 0 else 1)) (F_M_stand ν x1 (if x2 = 0 then 0 else 1))) ∧
  (∀ μ ν : Mem, Rel μ ν → okI Rel (F_T_undo μ ) (F_M_undo ν )) ∧
  (∀ μ ν : Mem, Rel μ ν → ∀ x1 x2 : Int32, okI Rel (F_T_of μ x1 x2) (F_M_of ν x1 x2)) ∧
  (∀ μ ν : Mem, Rel μ ν → ∀ x1 x2 x3 : Int32, okI Rel (F_T_pull μ x1 x2 x3) (F_M_pull ν x1 x2 x3)) ∧
  (∀ μ ν : Mem, Rel μ ν → ∀ x1 x2 x3 : Int32, okI Rel (F_T_first μ x1 x2 x3) (F_M_first ν x1 x2 x3)) ∧
  (∀ μ ν : Mem, Rel μ ν → ∀ x1 x2 x3 : Int32, okI Rel (F_T_lost μ x1 x2 x3) (F_M_lost ν x1 x2 x3)) ∧
  (∀ μ ν : Mem, Rel μ ν → ∀ x1 : Int32, okI Rel (F_T_bears μ x1) (F_M_bears ν x1)) ∧
  (∀ μ ν : Mem, Rel μ ν → ∀ x1 x2 : Int32, okI Rel (F_T_twofold μ x1 x2) (F_M_twofold ν x1 x2)) ∧
  (∀ μ ν : Mem, Rel μ ν → ∀ x1 x2 x3 : Int32, okI Rel (F_T_strokes μ x1 x2 x3) (F_M_strokes ν x1 x2 x3)) ∧
  (∀ μ ν : Mem, Rel μ ν → ∀ x1 : Int32, okI Rel (F_T_chance μ x1) (F_M_chance ν x1)) ∧
  (∀ μ ν : Mem, Rel μ ν → ∀ x1 : Int32, okI Rel (F_T_turn μ x1) (F_M_turn ν x1)) ∧
  (∀ μ ν : Mem, Rel μ ν → ∀ x1 x2 : Int32, okI Rel (F_T_worth μ x1 x2) (F_M_worth ν x1 x2)) ∧
  (∀ μ ν : Mem, Rel μ ν → ∀ x1 x2 x3 x4 : Int32, okI Rel (F_T_setUp μ x1 x2 x3 x4) (F_M_setUp ν x1 x2 x3 x4)) ∧
  (∀ μ ν : Mem, Rel μ ν → ∀ x1 x2 : Int32, okI Rel (F_T_morning μ x1 x2) (F_M_morning ν x1 x2)) ∧
  (∀ μ ν : Mem, Rel μ ν → ∀ x1 x2 x3 : Int32, okI Rel (F_T_lent μ x1 x2 x3) (F_M_lent ν x1 x2 x3)) ∧
  (∀ μ ν : Mem, Rel μ ν → ∀ x1 x2 x3 : Int32, okI Rel (F_T_pence μ x1 x2 x3) (F_M_pence ν x1 x2 x3)) ∧
  (∀ μ ν : Mem, Rel μ ν → ∀ x1 x2 x3 x4 : Int32, okI Rel (F_T_night μ x1 x2 x3 x4) (F_M_night ν x1 x2 x3 x4)) ∧
  (∀ μ ν : Mem, Rel μ ν → ∀ x1 x2 x3 : Int32, okI Rel (F_T_wake μ x1 x2 x3) (F_M_wake ν x1 x2 x3)) ∧
  (∀ μ ν : Mem, Rel μ ν → ∀ x1 : Int32, okL Rel (F_T_part μ x1) (F_M_part ν x1)) ∧
  (∀ μ ν : Mem, Rel μ ν → ∀ x1 : Int32, okI Rel (F_T_image μ x1) (F_M_image ν x1)) ∧
  (∀ μ ν : Mem, Rel μ ν → ∀ x1 : Int32, okI Rel (F_T_from μ x1) (F_M_from ν x1)) ∧
  (∀ μ ν : Mem, Rel μ ν → ∀ x1 : Int32, okI Rel (F_T_status μ x1) (F_M_status ν x1)) ∧
  (∀ μ ν : Mem, Rel μ ν → ∀ x1 : Int32, okI Rel (F_T_count μ x1) (F_M_count ν x1)) ∧
  (∀ μ ν : Mem, Rel μ ν → okD Rel μ (F_T_digest μ ) (F_M_digest ν ))
theorem lg_cmp_self (x : Int64) : lg_cmp x x = 0 := by
  unfold lg_cmp
  simp
theorem law_cond {L i : Nat} (hL : L ≤ 320) (hi : i ≤ 330) : Int32.ofNat L - 5 < nI i ↔ (L : Int) - 5 < (i : Int) := by
  rw [Int32.lt_iff_toInt_lt, nI_toInt (by omega), Int32.toInt_sub, show (Int32.ofNat L).toInt = (L : Int) from toInt_of rfl (by omega), show (5 : Int32).toInt = 5 from rfl]
  have h : ((L : Int) - 5).bmod (2 ^ 32) = (L : Int) - 5 := Int.bmod_eq_of_le (by omega) (by omega)
  rw [h]
theorem lw_nI_add (i k : Nat) : nI i + nI k = nI (i + k) := by
  unfold nI
  exact (Int32.ofNat_add i k).symm
theorem law_in {L i k : Nat} (h : i + k < L) (hL : L ≤ 320) : inb (nI i + nI k) L = true := by
  rw [lw_nI_add]
  unfold inb
  exact decide_eq_true (nI_in h (by omega))
theorem law_in0 {L i : Nat} (h : i < L) (hL : L ≤ 320) : inb (nI i) L = true := by
  unfold inb
  exact decide_eq_true (nI_in h (by omega))
theorem frC {A : Nat → Prop} (a b : Nat → Nat) (cs : Nat → ClassId) (μ ν φ : Mem) (hA : ∀ q, AC a q → A q) : Fr A (AC a) (WC a cs μ ++ WM b cs ν) (WC a cs μ) (WC a cs φ) (WC a cs φ ++ WM b cs ν) :=
  Fr.of (List.range 36) [36, 37, 38, 39, 40, 41, 42, 43, 44, 45, 46] [11, 12, 13, 14, 15, 16, 17, 18, 19, 20, 21, 22, 23, 24, 25, 26, 27, 28, 29, 30, 31, 32, 33, 34, 35, 36, 37, 38, 39, 40, 41, 42, 43, 44, 45, 46, 0, 1, 2, 3, 4, 5, 6, 7, 8, 9, 10] (WM b cs ν) hA (fun q h => h) (fun k q h => (List.mem_map_of_mem (f := fun q : Nat × va_E => q.1) (List.mem_of_getElem? h) : q.1 ∈ (WC a cs μ).map (fun q => q.1))) rfl rfl (by decide) rfl (by decide) rfl rfl
theorem frM {A : Nat → Prop} (a b : Nat → Nat) (cs : Nat → ClassId) (μ ν φ : Mem) (hA : ∀ q, AM b q → A q) : Fr A (AM b) (WC a cs μ ++ WM b cs ν) (WM b cs ν) (WM b cs φ) (WC a cs μ ++ WM b cs φ) :=
  Fr.of [36, 37, 38, 39, 40, 41, 42, 43, 44, 45, 46] (List.range 36) (List.range 47) (WC a cs μ) hA (fun q h => h) (fun k q h => (List.mem_map_of_mem (f := fun q : Nat × va_E => q.1) (List.mem_of_getElem? h) : q.1 ∈ (WM b cs ν).map (fun q => q.1))) rfl rfl (by decide) rfl (by decide) rfl rfl
theorem kl_0 : Cond.methodLink "TentPegsLaw" 13 y_T_tent ∈ TT := tm 318 (by decide +kernel) (by decide +kernel)
theorem kl_1 : Cond.methodLink "TentPegsLaw" 17 y_M_tent ∈ TT := tm 960 (by decide +kernel) (by decide +kernel)
set_option maxHeartbeats 4000000 in
set_option maxRecDepth 100000 in
theorem law_0 {p : Program} {l : Launch} {e : Env} {s : State} {m : MethodId} {args : Array Value} {below : List Frame} {meth : Method} {c : Code} {Q : State → Prop} {D : va_G} {A : Nat → Prop} {cs : Nat → ClassId} {a b : Nat → Nat} {adK adV : Nat → Nat} {sb LL : Nat} {xs : Nat → Int32} {Rel : Mem → Mem → Prop} (C : Cx p s m args c code 4 "TentPegsLaw") (hK : va_K D classes (tys cs) s) (hSx : Sx adK adV A s s.heap) (hX : va_X sb LL xs s s.heap) (hbl : sb < s.heap.size) (hbA : ¬ A sb) (hAa : ∀ q, AC a q → A q) (hAb : ∀ q, AM b q → A q) (hOK : RelOK Rel) (hLL : LL ≤ 320) (i : Nat) (hi : i + 5 ≤ LL) (μ ν : Mem) (hR : Rel μ ν) (kk : ∀ μ ν, Rel μ ν → GA p l e room_1 s m args below meth c Q D A 4 47 1521 (WC a cs μ ++ WM b cs ν) 1243 [(3, .int (nI i)), (2, .ref (b 0)), (1, .ref (a 0)), (0, .ref sb)] []) : GA p l e room_1 s m args below meth c Q D A 4 47 1521 (WC a cs μ ++ WM b cs ν) 180 [(3, .int (nI i)), (2, .ref (b 0)), (1, .ref (a 0)), (0, .ref sb)] [] := by
  obtain ⟨r, μ1, ν1, h1, h2, hR1⟩ := hOK.1 μ ν hR (xs (nI i + nI 1).toNatClampNeg)
  refine a_aload_n (pc1 := 181) C d_law_180 rfl rfl 2 rfl ?_
  refine a_aload_n (pc1 := 182) C d_law_181 rfl rfl 3 rfl ?_
  refine a_iload_n (pc1 := 183) C d_law_182 rfl rfl 0 rfl ?_
  refine a_iconst (pc1 := 184) (v := (nI 1)) C d_law_183 rfl (by decide) ?_
  refine a_iadd (pc1 := 185) C d_law_184 rfl ?_
  refine a_sld (pc1 := 186) C hX hbl hbA (law_in (k := 1) (by omega) hLL) d_law_185 rfl ?_
  refine a_callFI (pc1 := 189) (As := [.int (xs ((nI i) + (nI 1)).toNatClampNeg)]) (rest := []) (b := a 0) C hK 1 (frC a b cs μ ν μ1 hAa) (c_T_tent l D cs a μ (xs ((nI i) + (nI 1)).toNatClampNeg) r μ1 h1) s_T_tent kl_0 0 rfl rfl rfl ⟨Nat.le_of_ble_eq_true rfl, Nat.le_of_ble_eq_true rfl⟩ ⟨rfl, rfl⟩ ⟨Nat.le_of_ble_eq_true rfl, Nat.le_of_ble_eq_true rfl⟩ d_law_186 rfl rfl (Nat.le_of_ble_eq_true rfl) ?_
  refine a_aload_n (pc1 := 190) C d_law_189 rfl rfl 1 rfl ?_
  refine a_aload_n (pc1 := 191) C d_law_190 rfl rfl 3 rfl ?_
  refine a_iload_n (pc1 := 192) C d_law_191 rfl rfl 0 rfl ?_
  refine a_iconst (pc1 := 193) (v := (nI 1)) C d_law_192 rfl (by decide) ?_
  refine a_iadd (pc1 := 194) C d_law_193 rfl ?_
  refine a_sld (pc1 := 195) C hX hbl hbA (law_in (k := 1) (by omega) hLL) d_law_194 rfl ?_
  refine a_callFI (pc1 := 198) (As := [.int (xs ((nI i) + (nI 1)).toNatClampNeg)]) (rest := [.int r]) (b := b 0) C hK 1 (frM a b cs μ1 ν ν1 hAb) (c_M_tent l D cs b ν (xs ((nI i) + (nI 1)).toNatClampNeg) r ν1 h2) s_M_tent kl_1 36 rfl rfl rfl ⟨Nat.le_of_ble_eq_true rfl, Nat.le_of_ble_eq_true rfl⟩ ⟨rfl, rfl⟩ ⟨Nat.le_of_ble_eq_true rfl, Nat.le_of_ble_eq_true rfl⟩ d_law_195 rfl rfl (Nat.le_of_ble_eq_true rfl) ?_
  refine a_icmp_eq (pc1 := 201) C 1243 d_law_198 rfl (by decide) (fun _ => ?_) (fun c3 => absurd rfl c3)
  exact kk μ1 ν1 hR1
theorem kl_2 : Cond.methodLink "TentPegsLaw" 18 y_T_peg ∈ TT := tm 333 (by decide +kernel) (by decide +kernel)
theorem kl_3 : Cond.methodLink "TentPegsLaw" 22 y_M_peg ∈ TT := tm 977 (by decide +kernel) (by decide +kernel)
set_option maxHeartbeats 4000000 in
set_option maxRecDepth 100000 in
theorem law_1 {p : Program} {l : Launch} {e : Env} {s : State} {m : MethodId} {args : Array Value} {below : List Frame} {meth : Method} {c : Code} {Q : State → Prop} {D : va_G} {A : Nat → Prop} {cs : Nat → ClassId} {a b : Nat → Nat} {adK adV : Nat → Nat} {sb LL : Nat} {xs : Nat → Int32} {Rel : Mem → Mem → Prop} (C : Cx p s m args c code 4 "TentPegsLaw") (hK : va_K D classes (tys cs) s) (hSx : Sx adK adV A s s.heap) (hX : va_X sb LL xs s s.heap) (hbl : sb < s.heap.size) (hbA : ¬ A sb) (hAa : ∀ q, AC a q → A q) (hAb : ∀ q, AM b q → A q) (hOK : RelOK Rel) (hLL : LL ≤ 320) (i : Nat) (hi : i + 5 ≤ LL) (μ ν : Mem) (hR : Rel μ ν) (kk : ∀ μ ν, Rel μ ν → GA p l e room_1 s m args below meth c Q D A 4 47 1521 (WC a cs μ ++ WM b cs ν) 1243 [(3, .int (nI i)), (2, .ref (b 0)), (1, .ref (a 0)), (0, .ref sb)] []) : GA p l e room_1 s m args below meth c Q D A 4 47 1521 (WC a cs μ ++ WM b cs ν) 203 [(3, .int (nI i)), (2, .ref (b 0)), (1, .ref (a 0)), (0, .ref sb)] [] := by
  obtain ⟨r, μ1, ν1, h1, h2, hR1⟩ := hOK.2.1 μ ν hR (xs (nI i + nI 1).toNatClampNeg) (xs (nI i + nI 2).toNatClampNeg) (xs (nI i + nI 3).toNatClampNeg) (xs (nI i + nI 4).toNatClampNeg)
  refine a_aload_n (pc1 := 204) C d_law_203 rfl rfl 2 rfl ?_
  refine a_aload_n (pc1 := 205) C d_law_204 rfl rfl 3 rfl ?_
  refine a_iload_n (pc1 := 206) C d_law_205 rfl rfl 0 rfl ?_
  refine a_iconst (pc1 := 207) (v := (nI 1)) C d_law_206 rfl (by decide) ?_
  refine a_iadd (pc1 := 208) C d_law_207 rfl ?_
  refine a_sld (pc1 := 209) C hX hbl hbA (law_in (k := 1) (by omega) hLL) d_law_208 rfl ?_
  refine a_aload_n (pc1 := 210) C d_law_209 rfl rfl 3 rfl ?_
  refine a_iload_n (pc1 := 211) C d_law_210 rfl rfl 0 rfl ?_
  refine a_iconst (pc1 := 212) (v := (nI 2)) C d_law_211 rfl (by decide) ?_
  refine a_iadd (pc1 := 213) C d_law_212 rfl ?_
  refine a_sld (pc1 := 214) C hX hbl hbA (law_in (k := 2) (by omega) hLL) d_law_213 rfl ?_
  refine a_aload_n (pc1 := 215) C d_law_214 rfl rfl 3 rfl ?_
  refine a_iload_n (pc1 := 216) C d_law_215 rfl rfl 0 rfl ?_
  refine a_iconst (pc1 := 217) (v := (nI 3)) C d_law_216 rfl (by decide) ?_
  refine a_iadd (pc1 := 218) C d_law_217 rfl ?_
  refine a_sld (pc1 := 219) C hX hbl hbA (law_in (k := 3) (by omega) hLL) d_law_218 rfl ?_
  refine a_aload_n (pc1 := 220) C d_law_219 rfl rfl 3 rfl ?_
  refine a_iload_n (pc1 := 221) C d_law_220 rfl rfl 0 rfl ?_
  refine a_iconst (pc1 := 222) (v := (nI 4)) C d_law_221 rfl (by decide) ?_
  refine a_iadd (pc1 := 223) C d_law_222 rfl ?_
  refine a_sld (pc1 := 224) C hX hbl hbA (law_in (k := 4) (by omega) hLL) d_law_223 rfl ?_
  refine a_callFI (pc1 := 227) (As := [.int (xs ((nI i) + (nI 1)).toNatClampNeg), .int (xs ((nI i) + (nI 2)).toNatClampNeg), .int (xs ((nI i) + (nI 3)).toNatClampNeg), .int (xs ((nI i) + (nI 4)).toNatClampNeg)]) (rest := []) (b := a 0) C hK 4 (frC a b cs μ ν μ1 hAa) (c_T_peg l D cs a μ (xs ((nI i) + (nI 1)).toNatClampNeg) (xs ((nI i) + (nI 2)).toNatClampNeg) (xs ((nI i) + (nI 3)).toNatClampNeg) (xs ((nI i) + (nI 4)).toNatClampNeg) r μ1 h1) s_T_peg kl_2 0 rfl rfl rfl ⟨Nat.le_of_ble_eq_true rfl, Nat.le_of_ble_eq_true rfl⟩ ⟨rfl, rfl⟩ ⟨Nat.le_of_ble_eq_true rfl, Nat.le_of_ble_eq_true rfl⟩ d_law_224 rfl rfl (Nat.le_of_ble_eq_true rfl) ?_
  refine a_aload_n (pc1 := 228) C d_law_227 rfl rfl 1 rfl ?_
  refine a_aload_n (pc1 := 229) C d_law_228 rfl rfl 3 rfl ?_
  refine a_iload_n (pc1 := 230) C d_law_229 rfl rfl 0 rfl ?_
  refine a_iconst (pc1 := 231) (v := (nI 1)) C d_law_230 rfl (by decide) ?_
  refine a_iadd (pc1 := 232) C d_law_231 rfl ?_
  refine a_sld (pc1 := 233) C hX hbl hbA (law_in (k := 1) (by omega) hLL) d_law_232 rfl ?_
  refine a_aload_n (pc1 := 234) C d_law_233 rfl rfl 3 rfl ?_
  refine a_iload_n (pc1 := 235) C d_law_234 rfl rfl 0 rfl ?_
  refine a_iconst (pc1 := 236) (v := (nI 2)) C d_law_235 rfl (by decide) ?_
  refine a_iadd (pc1 := 237) C d_law_236 rfl ?_
  refine a_sld (pc1 := 238) C hX hbl hbA (law_in (k := 2) (by omega) hLL) d_law_237 rfl ?_
  refine a_aload_n (pc1 := 239) C d_law_238 rfl rfl 3 rfl ?_
  refine a_iload_n (pc1 := 240) C d_law_239 rfl rfl 0 rfl ?_
  refine a_iconst (pc1 := 241) (v := (nI 3)) C d_law_240 rfl (by decide) ?_
  refine a_iadd (pc1 := 242) C d_law_241 rfl ?_
  refine a_sld (pc1 := 243) C hX hbl hbA (law_in (k := 3) (by omega) hLL) d_law_242 rfl ?_
  refine a_aload_n (pc1 := 244) C d_law_243 rfl rfl 3 rfl ?_
  refine a_iload_n (pc1 := 245) C d_law_244 rfl rfl 0 rfl ?_
  refine a_iconst (pc1 := 246) (v := (nI 4)) C d_law_245 rfl (by decide) ?_
  refine a_iadd (pc1 := 247) C d_law_246 rfl ?_
  refine a_sld (pc1 := 248) C hX hbl hbA (law_in (k := 4) (by omega) hLL) d_law_247 rfl ?_
  refine a_callFI (pc1 := 251) (As := [.int (xs ((nI i) + (nI 1)).toNatClampNeg), .int (xs ((nI i) + (nI 2)).toNatClampNeg), .int (xs ((nI i) + (nI 3)).toNatClampNeg), .int (xs ((nI i) + (nI 4)).toNatClampNeg)]) (rest := [.int r]) (b := b 0) C hK 4 (frM a b cs μ1 ν ν1 hAb) (c_M_peg l D cs b ν (xs ((nI i) + (nI 1)).toNatClampNeg) (xs ((nI i) + (nI 2)).toNatClampNeg) (xs ((nI i) + (nI 3)).toNatClampNeg) (xs ((nI i) + (nI 4)).toNatClampNeg) r ν1 h2) s_M_peg kl_3 36 rfl rfl rfl ⟨Nat.le_of_ble_eq_true rfl, Nat.le_of_ble_eq_true rfl⟩ ⟨rfl, rfl⟩ ⟨Nat.le_of_ble_eq_true rfl, Nat.le_of_ble_eq_true rfl⟩ d_law_248 rfl rfl (Nat.le_of_ble_eq_true rfl) ?_
  refine a_icmp_eq (pc1 := 254) C 1243 d_law_251 rfl (by decide) (fun _ => ?_) (fun c3 => absurd rfl c3)
  exact kk μ1 ν1 hR1
theorem kl_4 : Cond.methodLink "TentPegsLaw" 23 y_T_wet ∈ TT := tm 346 (by decide +kernel) (by decide +kernel)
theorem kl_5 : Cond.methodLink "TentPegsLaw" 26 y_M_wet ∈ TT := tm 995 (by decide +kernel) (by decide +kernel)
set_option maxHeartbeats 4000000 in
set_option maxRecDepth 100000 in
theorem law_2 {p : Program} {l : Launch} {e : Env} {s : State} {m : MethodId} {args : Array Value} {below : List Frame} {meth : Method} {c : Code} {Q : State → Prop} {D : va_G} {A : Nat → Prop} {cs : Nat → ClassId} {a b : Nat → Nat} {adK adV : Nat → Nat} {sb LL : Nat} {xs : Nat → Int32} {Rel : Mem → Mem → Prop} (C : Cx p s m args c code 4 "TentPegsLaw") (hK : va_K D classes (tys cs) s) (hSx : Sx adK adV A s s.heap) (hX : va_X sb LL xs s s.heap) (hbl : sb < s.heap.size) (hbA : ¬ A sb) (hAa : ∀ q, AC a q → A q) (hAb : ∀ q, AM b q → A q) (hOK : RelOK Rel) (hLL : LL ≤ 320) (i : Nat) (hi : i + 5 ≤ LL) (μ ν : Mem) (hR : Rel μ ν) (kk : ∀ μ ν, Rel μ ν → GA p l e room_1 s m args below meth c Q D A 4 47 1521 (WC a cs μ ++ WM b cs ν) 1243 [(3, .int (nI i)), (2, .ref (b 0)), (1, .ref (a 0)), (0, .ref sb)] []) : GA p l e room_1 s m args below meth c Q D A 4 47 1521 (WC a cs μ ++ WM b cs ν) 256 [(3, .int (nI i)), (2, .ref (b 0)), (1, .ref (a 0)), (0, .ref sb)] [] := by
  obtain ⟨r, μ1, ν1, h1, h2, hR1⟩ := hOK.2.2.1 μ ν hR (xs (nI i + nI 1).toNatClampNeg)
  refine a_aload_n (pc1 := 257) C d_law_256 rfl rfl 2 rfl ?_
  refine a_aload_n (pc1 := 258) C d_law_257 rfl rfl 3 rfl ?_
  refine a_iload_n (pc1 := 259) C d_law_258 rfl rfl 0 rfl ?_
  refine a_iconst (pc1 := 260) (v := (nI 1)) C d_law_259 rfl (by decide) ?_
  refine a_iadd (pc1 := 261) C d_law_260 rfl ?_
  refine a_sld (pc1 := 262) C hX hbl hbA (law_in (k := 1) (by omega) hLL) d_law_261 rfl ?_
  refine a_callFI (pc1 := 265) (As := [.int (xs ((nI i) + (nI 1)).toNatClampNeg)]) (rest := []) (b := a 0) C hK 1 (frC a b cs μ ν μ1 hAa) (c_T_wet l D cs a μ (xs ((nI i) + (nI 1)).toNatClampNeg) r μ1 h1) s_T_wet kl_4 0 rfl rfl rfl ⟨Nat.le_of_ble_eq_true rfl, Nat.le_of_ble_eq_true rfl⟩ ⟨rfl, rfl⟩ ⟨Nat.le_of_ble_eq_true rfl, Nat.le_of_ble_eq_true rfl⟩ d_law_262 rfl rfl (Nat.le_of_ble_eq_true rfl) ?_
  refine a_aload_n (pc1 := 266) C d_law_265 rfl rfl 1 rfl ?_
  refine a_aload_n (pc1 := 267) C d_law_266 rfl rfl 3 rfl ?_
  refine a_iload_n (pc1 := 268) C d_law_267 rfl rfl 0 rfl ?_
  refine a_iconst (pc1 := 269) (v := (nI 1)) C d_law_268 rfl (by decide) ?_
  refine a_iadd (pc1 := 270) C d_law_269 rfl ?_
  refine a_sld (pc1 := 271) C hX hbl hbA (law_in (k := 1) (by omega) hLL) d_law_270 rfl ?_
  refine a_callFI (pc1 := 274) (As := [.int (xs ((nI i) + (nI 1)).toNatClampNeg)]) (rest := [.int r]) (b := b 0) C hK 1 (frM a b cs μ1 ν ν1 hAb) (c_M_wet l D cs b ν (xs ((nI i) + (nI 1)).toNatClampNeg) r ν1 h2) s_M_wet kl_5 36 rfl rfl rfl ⟨Nat.le_of_ble_eq_true rfl, Nat.le_of_ble_eq_true rfl⟩ ⟨rfl, rfl⟩ ⟨Nat.le_of_ble_eq_true rfl, Nat.le_of_ble_eq_true rfl⟩ d_law_271 rfl rfl (Nat.le_of_ble_eq_true rfl) ?_
  refine a_icmp_eq (pc1 := 277) C 1243 d_law_274 rfl (by decide) (fun _ => ?_) (fun c3 => absurd rfl c3)
  exact kk μ1 ν1 hR1
theorem kl_6 : Cond.methodLink "TentPegsLaw" 27 y_T_wall ∈ TT := tm 353 (by decide +kernel) (by decide +kernel)
theorem kl_7 : Cond.methodLink "TentPegsLaw" 31 y_M_wall ∈ TT := tm 999 (by decide +kernel) (by decide +kernel)
set_option maxHeartbeats 4000000 in
set_option maxRecDepth 100000 in
theorem law_3 {p : Program} {l : Launch} {e : Env} {s : State} {m : MethodId} {args : Array Value} {below : List Frame} {meth : Method} {c : Code} {Q : State → Prop} {D : va_G} {A : Nat → Prop} {cs : Nat → ClassId} {a b : Nat → Nat} {adK adV : Nat → Nat} {sb LL : Nat} {xs : Nat → Int32} {Rel : Mem → Mem → Prop} (C : Cx p s m args c code 4 "TentPegsLaw") (hK : va_K D classes (tys cs) s) (hSx : Sx adK adV A s s.heap) (hX : va_X sb LL xs s s.heap) (hbl : sb < s.heap.size) (hbA : ¬ A sb) (hAa : ∀ q, AC a q → A q) (hAb : ∀ q, AM b q → A q) (hOK : RelOK Rel) (hLL : LL ≤ 320) (i : Nat) (hi : i + 5 ≤ LL) (μ ν : Mem) (hR : Rel μ ν) (kk : ∀ μ ν, Rel μ ν → GA p l e room_1 s m args below meth c Q D A 4 47 1521 (WC a cs μ ++ WM b cs ν) 1243 [(3, .int (nI i)), (2, .ref (b 0)), (1, .ref (a 0)), (0, .ref sb)] []) : GA p l e room_1 s m args below meth c Q D A 4 47 1521 (WC a cs μ ++ WM b cs ν) 279 [(3, .int (nI i)), (2, .ref (b 0)), (1, .ref (a 0)), (0, .ref sb)] [] := by
  obtain ⟨r, μ1, ν1, h1, h2, hR1⟩ := hOK.2.2.2.1 μ ν hR (xs (nI i + nI 1).toNatClampNeg) (xs (nI i + nI 2).toNatClampNeg)
  refine a_aload_n (pc1 := 280) C d_law_279 rfl rfl 2 rfl ?_
  refine a_aload_n (pc1 := 281) C d_law_280 rfl rfl 3 rfl ?_
  refine a_iload_n (pc1 := 282) C d_law_281 rfl rfl 0 rfl ?_
  refine a_iconst (pc1 := 283) (v := (nI 1)) C d_law_282 rfl (by decide) ?_
  refine a_iadd (pc1 := 284) C d_law_283 rfl ?_
  refine a_sld (pc1 := 285) C hX hbl hbA (law_in (k := 1) (by omega) hLL) d_law_284 rfl ?_
  refine a_aload_n (pc1 := 286) C d_law_285 rfl rfl 3 rfl ?_
  refine a_iload_n (pc1 := 287) C d_law_286 rfl rfl 0 rfl ?_
  refine a_iconst (pc1 := 288) (v := (nI 2)) C d_law_287 rfl (by decide) ?_
  refine a_iadd (pc1 := 289) C d_law_288 rfl ?_
  refine a_sld (pc1 := 290) C hX hbl hbA (law_in (k := 2) (by omega) hLL) d_law_289 rfl ?_
  refine a_if_eq (pc1 := 293) C 297 d_law_290 rfl (by decide) (fun c1 => ?_) (fun c1 => ?_)
  · rw [if_pos c1] at h1 h2
    refine a_iconst (pc1 := 298) (v := 0) C d_law_297 rfl (by decide) ?_
    refine a_callFI (pc1 := 301) (As := [.int (xs ((nI i) + (nI 1)).toNatClampNeg), .int 0]) (rest := []) (b := a 0) C hK 2 (frC a b cs μ ν μ1 hAa) (c_T_wall l D cs a μ (xs ((nI i) + (nI 1)).toNatClampNeg) 0 r μ1 h1) s_T_wall kl_6 0 rfl rfl rfl ⟨Nat.le_of_ble_eq_true rfl, Nat.le_of_ble_eq_true rfl⟩ ⟨rfl, rfl⟩ ⟨Nat.le_of_ble_eq_true rfl, Nat.le_of_ble_eq_true rfl⟩ d_law_298 rfl rfl (Nat.le_of_ble_eq_true rfl) ?_
    refine a_aload_n (pc1 := 302) C d_law_301 rfl rfl 1 rfl ?_
    refine a_aload_n (pc1 := 303) C d_law_302 rfl rfl 3 rfl ?_
    refine a_iload_n (pc1 := 304) C d_law_303 rfl rfl 0 rfl ?_
    refine a_iconst (pc1 := 305) (v := (nI 1)) C d_law_304 rfl (by decide) ?_
    refine a_iadd (pc1 := 306) C d_law_305 rfl ?_
    refine a_sld (pc1 := 307) C hX hbl hbA (law_in (k := 1) (by omega) hLL) d_law_306 rfl ?_
    refine a_aload_n (pc1 := 308) C d_law_307 rfl rfl 3 rfl ?_
    refine a_iload_n (pc1 := 309) C d_law_308 rfl rfl 0 rfl ?_
    refine a_iconst (pc1 := 310) (v := (nI 2)) C d_law_309 rfl (by decide) ?_
    refine a_iadd (pc1 := 311) C d_law_310 rfl ?_
    refine a_sld (pc1 := 312) C hX hbl hbA (law_in (k := 2) (by omega) hLL) d_law_311 rfl ?_
    refine a_if_eq (pc1 := 315) C 319 d_law_312 rfl (by decide) (fun c2 => ?_) (fun c2 => absurd c1 c2)
    refine a_iconst (pc1 := 320) (v := 0) C d_law_319 rfl (by decide) ?_
    refine a_callFI (pc1 := 323) (As := [.int (xs ((nI i) + (nI 1)).toNatClampNeg), .int 0]) (rest := [.int r]) (b := b 0) C hK 2 (frM a b cs μ1 ν ν1 hAb) (c_M_wall l D cs b ν (xs ((nI i) + (nI 1)).toNatClampNeg) 0 r ν1 h2) s_M_wall kl_7 36 rfl rfl rfl ⟨Nat.le_of_ble_eq_true rfl, Nat.le_of_ble_eq_true rfl⟩ ⟨rfl, rfl⟩ ⟨Nat.le_of_ble_eq_true rfl, Nat.le_of_ble_eq_true rfl⟩ d_law_320 rfl rfl (Nat.le_of_ble_eq_true rfl) ?_
    refine a_icmp_eq (pc1 := 326) C 1243 d_law_323 rfl (by decide) (fun _ => ?_) (fun c3 => absurd rfl c3)
    exact kk μ1 ν1 hR1
  · rw [if_neg c1] at h1 h2
    refine a_iconst (pc1 := 294) (v := 1) C d_law_293 rfl (by decide) ?_
    refine a_goto C 298 d_law_294 (by decide) ?_
    refine a_callFI (pc1 := 301) (As := [.int (xs ((nI i) + (nI 1)).toNatClampNeg), .int 1]) (rest := []) (b := a 0) C hK 2 (frC a b cs μ ν μ1 hAa) (c_T_wall l D cs a μ (xs ((nI i) + (nI 1)).toNatClampNeg) 1 r μ1 h1) s_T_wall kl_6 0 rfl rfl rfl ⟨Nat.le_of_ble_eq_true rfl, Nat.le_of_ble_eq_true rfl⟩ ⟨rfl, rfl⟩ ⟨Nat.le_of_ble_eq_true rfl, Nat.le_of_ble_eq_true rfl⟩ d_law_298 rfl rfl (Nat.le_of_ble_eq_true rfl) ?_
    refine a_aload_n (pc1 := 302) C d_law_301 rfl rfl 1 rfl ?_
    refine a_aload_n (pc1 := 303) C d_law_302 rfl rfl 3 rfl ?_
    refine a_iload_n (pc1 := 304) C d_law_303 rfl rfl 0 rfl ?_
    refine a_iconst (pc1 := 305) (v := (nI 1)) C d_law_304 rfl (by decide) ?_
    refine a_iadd (pc1 := 306) C d_law_305 rfl ?_
    refine a_sld (pc1 := 307) C hX hbl hbA (law_in (k := 1) (by omega) hLL) d_law_306 rfl ?_
    refine a_aload_n (pc1 := 308) C d_law_307 rfl rfl 3 rfl ?_
    refine a_iload_n (pc1 := 309) C d_law_308 rfl rfl 0 rfl ?_
    refine a_iconst (pc1 := 310) (v := (nI 2)) C d_law_309 rfl (by decide) ?_
    refine a_iadd (pc1 := 311) C d_law_310 rfl ?_
    refine a_sld (pc1 := 312) C hX hbl hbA (law_in (k := 2) (by omega) hLL) d_law_311 rfl ?_
    refine a_if_eq (pc1 := 315) C 319 d_law_312 rfl (by decide) (fun c2 => absurd c2 c1) (fun c2 => ?_)
    refine a_iconst (pc1 := 316) (v := 1) C d_law_315 rfl (by decide) ?_
    refine a_goto C 320 d_law_316 (by decide) ?_
    refine a_callFI (pc1 := 323) (As := [.int (xs ((nI i) + (nI 1)).toNatClampNeg), .int 1]) (rest := [.int r]) (b := b 0) C hK 2 (frM a b cs μ1 ν ν1 hAb) (c_M_wall l D cs b ν (xs ((nI i) + (nI 1)).toNatClampNeg) 1 r ν1 h2) s_M_wall kl_7 36 rfl rfl rfl ⟨Nat.le_of_ble_eq_true rfl, Nat.le_of_ble_eq_true rfl⟩ ⟨rfl, rfl⟩ ⟨Nat.le_of_ble_eq_true rfl, Nat.le_of_ble_eq_true rfl⟩ d_law_320 rfl rfl (Nat.le_of_ble_eq_true rfl) ?_
    refine a_icmp_eq (pc1 := 326) C 1243 d_law_323 rfl (by decide) (fun _ => ?_) (fun c3 => absurd rfl c3)
    exact kk μ1 ν1 hR1
theorem kl_8 : Cond.methodLink "TentPegsLaw" 32 y_T_odds ∈ TT := tm 379 (by decide +kernel) (by decide +kernel)
theorem kl_9 : Cond.methodLink "TentPegsLaw" 36 y_M_odds ∈ TT := tm 1014 (by decide +kernel) (by decide +kernel)
set_option maxHeartbeats 4000000 in
set_option maxRecDepth 100000 in
theorem law_4 {p : Program} {l : Launch} {e : Env} {s : State} {m : MethodId} {args : Array Value} {below : List Frame} {meth : Method} {c : Code} {Q : State → Prop} {D : va_G} {A : Nat → Prop} {cs : Nat → ClassId} {a b : Nat → Nat} {adK adV : Nat → Nat} {sb LL : Nat} {xs : Nat → Int32} {Rel : Mem → Mem → Prop} (C : Cx p s m args c code 4 "TentPegsLaw") (hK : va_K D classes (tys cs) s) (hSx : Sx adK adV A s s.heap) (hX : va_X sb LL xs s s.heap) (hbl : sb < s.heap.size) (hbA : ¬ A sb) (hAa : ∀ q, AC a q → A q) (hAb : ∀ q, AM b q → A q) (hOK : RelOK Rel) (hLL : LL ≤ 320) (i : Nat) (hi : i + 5 ≤ LL) (μ ν : Mem) (hR : Rel μ ν) (kk : ∀ μ ν, Rel μ ν → GA p l e room_1 s m args below meth c Q D A 4 47 1521 (WC a cs μ ++ WM b cs ν) 1243 [(3, .int (nI i)), (2, .ref (b 0)), (1, .ref (a 0)), (0, .ref sb)] []) : GA p l e room_1 s m args below meth c Q D A 4 47 1521 (WC a cs μ ++ WM b cs ν) 328 [(3, .int (nI i)), (2, .ref (b 0)), (1, .ref (a 0)), (0, .ref sb)] [] := by
  obtain ⟨r, μ1, ν1, h1, h2, hR1⟩ := hOK.2.2.2.2.1 μ ν hR (xs (nI i + nI 1).toNatClampNeg) (xs (nI i + nI 2).toNatClampNeg)
  refine a_aload_n (pc1 := 329) C d_law_328 rfl rfl 2 rfl ?_
  refine a_aload_n (pc1 := 330) C d_law_329 rfl rfl 3 rfl ?_
  refine a_iload_n (pc1 := 331) C d_law_330 rfl rfl 0 rfl ?_
  refine a_iconst (pc1 := 332) (v := (nI 1)) C d_law_331 rfl (by decide) ?_
  refine a_iadd (pc1 := 333) C d_law_332 rfl ?_
  refine a_sld (pc1 := 334) C hX hbl hbA (law_in (k := 1) (by omega) hLL) d_law_333 rfl ?_
  refine a_aload_n (pc1 := 335) C d_law_334 rfl rfl 3 rfl ?_
  refine a_iload_n (pc1 := 336) C d_law_335 rfl rfl 0 rfl ?_
  refine a_iconst (pc1 := 337) (v := (nI 2)) C d_law_336 rfl (by decide) ?_
  refine a_iadd (pc1 := 338) C d_law_337 rfl ?_
  refine a_sld (pc1 := 339) C hX hbl hbA (law_in (k := 2) (by omega) hLL) d_law_338 rfl ?_
  refine a_callFI (pc1 := 342) (As := [.int (xs ((nI i) + (nI 1)).toNatClampNeg), .int (xs ((nI i) + (nI 2)).toNatClampNeg)]) (rest := []) (b := a 0) C hK 2 (frC a b cs μ ν μ1 hAa) (c_T_odds l D cs a μ (xs ((nI i) + (nI 1)).toNatClampNeg) (xs ((nI i) + (nI 2)).toNatClampNeg) r μ1 h1) s_T_odds kl_8 0 rfl rfl rfl ⟨Nat.le_of_ble_eq_true rfl, Nat.le_of_ble_eq_true rfl⟩ ⟨rfl, rfl⟩ ⟨Nat.le_of_ble_eq_true rfl, Nat.le_of_ble_eq_true rfl⟩ d_law_339 rfl rfl (Nat.le_of_ble_eq_true rfl) ?_
  refine a_aload_n (pc1 := 343) C d_law_342 rfl rfl 1 rfl ?_
  refine a_aload_n (pc1 := 344) C d_law_343 rfl rfl 3 rfl ?_
  refine a_iload_n (pc1 := 345) C d_law_344 rfl rfl 0 rfl ?_
  refine a_iconst (pc1 := 346) (v := (nI 1)) C d_law_345 rfl (by decide) ?_
  refine a_iadd (pc1 := 347) C d_law_346 rfl ?_
  refine a_sld (pc1 := 348) C hX hbl hbA (law_in (k := 1) (by omega) hLL) d_law_347 rfl ?_
  refine a_aload_n (pc1 := 349) C d_law_348 rfl rfl 3 rfl ?_
  refine a_iload_n (pc1 := 350) C d_law_349 rfl rfl 0 rfl ?_
  refine a_iconst (pc1 := 351) (v := (nI 2)) C d_law_350 rfl (by decide) ?_
  refine a_iadd (pc1 := 352) C d_law_351 rfl ?_
  refine a_sld (pc1 := 353) C hX hbl hbA (law_in (k := 2) (by omega) hLL) d_law_352 rfl ?_
  refine a_callFI (pc1 := 356) (As := [.int (xs ((nI i) + (nI 1)).toNatClampNeg), .int (xs ((nI i) + (nI 2)).toNatClampNeg)]) (rest := [.int r]) (b := b 0) C hK 2 (frM a b cs μ1 ν ν1 hAb) (c_M_odds l D cs b ν (xs ((nI i) + (nI 1)).toNatClampNeg) (xs ((nI i) + (nI 2)).toNatClampNeg) r ν1 h2) s_M_odds kl_9 36 rfl rfl rfl ⟨Nat.le_of_ble_eq_true rfl, Nat.le_of_ble_eq_true rfl⟩ ⟨rfl, rfl⟩ ⟨Nat.le_of_ble_eq_true rfl, Nat.le_of_ble_eq_true rfl⟩ d_law_353 rfl rfl (Nat.le_of_ble_eq_true rfl) ?_
  refine a_icmp_eq (pc1 := 359) C 1243 d_law_356 rfl (by decide) (fun _ => ?_) (fun c3 => absurd rfl c3)
  exact kk μ1 ν1 hR1
theorem kl_10 : Cond.methodLink "TentPegsLaw" 37 y_T_type ∈ TT := tm 387 (by decide +kernel) (by decide +kernel)
theorem kl_11 : Cond.methodLink "TentPegsLaw" 40 y_M_type ∈ TT := tm 1019 (by decide +kernel) (by decide +kernel)
set_option maxHeartbeats 4000000 in
set_option maxRecDepth 100000 in
theorem law_5 {p : Program} {l : Launch} {e : Env} {s : State} {m : MethodId} {args : Array Value} {below : List Frame} {meth : Method} {c : Code} {Q : State → Prop} {D : va_G} {A : Nat → Prop} {cs : Nat → ClassId} {a b : Nat → Nat} {adK adV : Nat → Nat} {sb LL : Nat} {xs : Nat → Int32} {Rel : Mem → Mem → Prop} (C : Cx p s m args c code 4 "TentPegsLaw") (hK : va_K D classes (tys cs) s) (hSx : Sx adK adV A s s.heap) (hX : va_X sb LL xs s s.heap) (hbl : sb < s.heap.size) (hbA : ¬ A sb) (hAa : ∀ q, AC a q → A q) (hAb : ∀ q, AM b q → A q) (hOK : RelOK Rel) (hLL : LL ≤ 320) (i : Nat) (hi : i + 5 ≤ LL) (μ ν : Mem) (hR : Rel μ ν) (kk : ∀ μ ν, Rel μ ν → GA p l e room_1 s m args below meth c Q D A 4 47 1521 (WC a cs μ ++ WM b cs ν) 1243 [(3, .int (nI i)), (2, .ref (b 0)), (1, .ref (a 0)), (0, .ref sb)] []) : GA p l e room_1 s m args below meth c Q D A 4 47 1521 (WC a cs μ ++ WM b cs ν) 361 [(3, .int (nI i)), (2, .ref (b 0)), (1, .ref (a 0)), (0, .ref sb)] [] := by
  obtain ⟨r, μ1, ν1, h1, h2, hR1⟩ := hOK.2.2.2.2.2.1 μ ν hR (xs (nI i + nI 1).toNatClampNeg)
  refine a_aload_n (pc1 := 362) C d_law_361 rfl rfl 2 rfl ?_
  refine a_aload_n (pc1 := 363) C d_law_362 rfl rfl 3 rfl ?_
  refine a_iload_n (pc1 := 364) C d_law_363 rfl rfl 0 rfl ?_
  refine a_iconst (pc1 := 365) (v := (nI 1)) C d_law_364 rfl (by decide) ?_
  refine a_iadd (pc1 := 366) C d_law_365 rfl ?_
  refine a_sld (pc1 := 367) C hX hbl hbA (law_in (k := 1) (by omega) hLL) d_law_366 rfl ?_
  refine a_callFI (pc1 := 370) (As := [.int (xs ((nI i) + (nI 1)).toNatClampNeg)]) (rest := []) (b := a 0) C hK 1 (frC a b cs μ ν μ1 hAa) (c_T_type l D cs a μ (xs ((nI i) + (nI 1)).toNatClampNeg) r μ1 h1) s_T_type kl_10 0 rfl rfl rfl ⟨Nat.le_of_ble_eq_true rfl, Nat.le_of_ble_eq_true rfl⟩ ⟨rfl, rfl⟩ ⟨Nat.le_of_ble_eq_true rfl, Nat.le_of_ble_eq_true rfl⟩ d_law_367 rfl rfl (Nat.le_of_ble_eq_true rfl) ?_
  refine a_aload_n (pc1 := 371) C d_law_370 rfl rfl 1 rfl ?_
  refine a_aload_n (pc1 := 372) C d_law_371 rfl rfl 3 rfl ?_
  refine a_iload_n (pc1 := 373) C d_law_372 rfl rfl 0 rfl ?_
  refine a_iconst (pc1 := 374) (v := (nI 1)) C d_law_373 rfl (by decide) ?_
  refine a_iadd (pc1 := 375) C d_law_374 rfl ?_
  refine a_sld (pc1 := 376) C hX hbl hbA (law_in (k := 1) (by omega) hLL) d_law_375 rfl ?_
  refine a_callFI (pc1 := 379) (As := [.int (xs ((nI i) + (nI 1)).toNatClampNeg)]) (rest := [.int r]) (b := b 0) C hK 1 (frM a b cs μ1 ν ν1 hAb) (c_M_type l D cs b ν (xs ((nI i) + (nI 1)).toNatClampNeg) r ν1 h2) s_M_type kl_11 36 rfl rfl rfl ⟨Nat.le_of_ble_eq_true rfl, Nat.le_of_ble_eq_true rfl⟩ ⟨rfl, rfl⟩ ⟨Nat.le_of_ble_eq_true rfl, Nat.le_of_ble_eq_true rfl⟩ d_law_376 rfl rfl (Nat.le_of_ble_eq_true rfl) ?_
  refine a_icmp_eq (pc1 := 382) C 1243 d_law_379 rfl (by decide) (fun _ => ?_) (fun c3 => absurd rfl c3)
  exact kk μ1 ν1 hR1
theorem kl_12 : Cond.methodLink "TentPegsLaw" 41 y_T_clear ∈ TT := tm 395 (by decide +kernel) (by decide +kernel)
theorem kl_13 : Cond.methodLink "TentPegsLaw" 45 y_M_clear ∈ TT := tm 1024 (by decide +kernel) (by decide +kernel)
set_option maxHeartbeats 4000000 in
set_option maxRecDepth 100000 in
theorem law_6 {p : Program} {l : Launch} {e : Env} {s : State} {m : MethodId} {args : Array Value} {below : List Frame} {meth : Method} {c : Code} {Q : State → Prop} {D : va_G} {A : Nat → Prop} {cs : Nat → ClassId} {a b : Nat → Nat} {adK adV : Nat → Nat} {sb LL : Nat} {xs : Nat → Int32} {Rel : Mem → Mem → Prop} (C : Cx p s m args c code 4 "TentPegsLaw") (hK : va_K D classes (tys cs) s) (hSx : Sx adK adV A s s.heap) (hX : va_X sb LL xs s s.heap) (hbl : sb < s.heap.size) (hbA : ¬ A sb) (hAa : ∀ q, AC a q → A q) (hAb : ∀ q, AM b q → A q) (hOK : RelOK Rel) (hLL : LL ≤ 320) (i : Nat) (hi : i + 5 ≤ LL) (μ ν : Mem) (hR : Rel μ ν) (kk : ∀ μ ν, Rel μ ν → GA p l e room_1 s m args below meth c Q D A 4 47 1521 (WC a cs μ ++ WM b cs ν) 1243 [(3, .int (nI i)), (2, .ref (b 0)), (1, .ref (a 0)), (0, .ref sb)] []) : GA p l e room_1 s m args below meth c Q D A 4 47 1521 (WC a cs μ ++ WM b cs ν) 384 [(3, .int (nI i)), (2, .ref (b 0)), (1, .ref (a 0)), (0, .ref sb)] [] := by
  obtain ⟨r, μ1, ν1, h1, h2, hR1⟩ := hOK.2.2.2.2.2.2.1 μ ν hR 
  refine a_aload_n (pc1 := 385) C d_law_384 rfl rfl 2 rfl ?_
  refine a_callFI (pc1 := 388) (As := []) (rest := []) (b := a 0) C hK 0 (frC a b cs μ ν μ1 hAa) (c_T_clear l D cs a μ  r μ1 h1) s_T_clear kl_12 0 rfl rfl rfl ⟨Nat.le_of_ble_eq_true rfl, Nat.le_of_ble_eq_true rfl⟩ ⟨rfl, rfl⟩ ⟨Nat.le_of_ble_eq_true rfl, Nat.le_of_ble_eq_true rfl⟩ d_law_385 rfl rfl (Nat.le_of_ble_eq_true rfl) ?_
  refine a_aload_n (pc1 := 389) C d_law_388 rfl rfl 1 rfl ?_
  refine a_callFI (pc1 := 392) (As := []) (rest := [.int r]) (b := b 0) C hK 0 (frM a b cs μ1 ν ν1 hAb) (c_M_clear l D cs b ν  r ν1 h2) s_M_clear kl_13 36 rfl rfl rfl ⟨Nat.le_of_ble_eq_true rfl, Nat.le_of_ble_eq_true rfl⟩ ⟨rfl, rfl⟩ ⟨Nat.le_of_ble_eq_true rfl, Nat.le_of_ble_eq_true rfl⟩ d_law_389 rfl rfl (Nat.le_of_ble_eq_true rfl) ?_
  refine a_icmp_eq (pc1 := 395) C 1243 d_law_392 rfl (by decide) (fun _ => ?_) (fun c3 => absurd rfl c3)
  exact kk μ1 ν1 hR1
theorem kl_14 : Cond.methodLink "TentPegsLaw" 46 y_T_read ∈ TT := tm 399 (by decide +kernel) (by decide +kernel)
theorem kl_15 : Cond.methodLink "TentPegsLaw" 49 y_M_read ∈ TT := tm 1028 (by decide +kernel) (by decide +kernel)
set_option maxHeartbeats 4000000 in
set_option maxRecDepth 100000 in
theorem law_7 {p : Program} {l : Launch} {e : Env} {s : State} {m : MethodId} {args : Array Value} {below : List Frame} {meth : Method} {c : Code} {Q : State → Prop} {D : va_G} {A : Nat → Prop} {cs : Nat → ClassId} {a b : Nat → Nat} {adK adV : Nat → Nat} {sb LL : Nat} {xs : Nat → Int32} {Rel : Mem → Mem → Prop} (C : Cx p s m args c code 4 "TentPegsLaw") (hK : va_K D classes (tys cs) s) (hSx : Sx adK adV A s s.heap) (hX : va_X sb LL xs s s.heap) (hbl : sb < s.heap.size) (hbA : ¬ A sb) (hAa : ∀ q, AC a q → A q) (hAb : ∀ q, AM b q → A q) (hOK : RelOK Rel) (hLL : LL ≤ 320) (i : Nat) (hi : i + 5 ≤ LL) (μ ν : Mem) (hR : Rel μ ν) (kk : ∀ μ ν, Rel μ ν → GA p l e room_1 s m args below meth c Q D A 4 47 1521 (WC a cs μ ++ WM b cs ν) 1243 [(3, .int (nI i)), (2, .ref (b 0)), (1, .ref (a 0)), (0, .ref sb)] []) : GA p l e room_1 s m args below meth c Q D A 4 47 1521 (WC a cs μ ++ WM b cs ν) 397 [(3, .int (nI i)), (2, .ref (b 0)), (1, .ref (a 0)), (0, .ref sb)] [] := by
  obtain ⟨r, μ1, ν1, h1, h2, hR1⟩ := hOK.2.2.2.2.2.2.2.1 μ ν hR 
  refine a_aload_n (pc1 := 398) C d_law_397 rfl rfl 2 rfl ?_
  refine a_callXI (pc1 := 401) (As := []) (rest := []) (b := a 0) C hK hSx 0 (frC a b cs μ ν μ1 hAa) (c_T_read l adK adV D cs a μ  r μ1 h1) s_T_read kl_14 0 rfl rfl rfl ⟨Nat.le_of_ble_eq_true rfl, Nat.le_of_ble_eq_true rfl⟩ ⟨rfl, rfl⟩ ⟨Nat.le_of_ble_eq_true rfl, Nat.le_of_ble_eq_true rfl⟩ d_law_398 rfl rfl (Nat.le_of_ble_eq_true rfl) ?_
  refine a_aload_n (pc1 := 402) C d_law_401 rfl rfl 1 rfl ?_
  refine a_callFI (pc1 := 405) (As := []) (rest := [.int r]) (b := b 0) C hK 0 (frM a b cs μ1 ν ν1 hAb) (c_M_read l D cs b ν  r ν1 h2) s_M_read kl_15 36 rfl rfl rfl ⟨Nat.le_of_ble_eq_true rfl, Nat.le_of_ble_eq_true rfl⟩ ⟨rfl, rfl⟩ ⟨Nat.le_of_ble_eq_true rfl, Nat.le_of_ble_eq_true rfl⟩ d_law_402 rfl rfl (Nat.le_of_ble_eq_true rfl) ?_
  refine a_icmp_eq (pc1 := 408) C 1243 d_law_405 rfl (by decide) (fun _ => ?_) (fun c3 => absurd rfl c3)
  exact kk μ1 ν1 hR1
theorem kl_16 : Cond.methodLink "TentPegsLaw" 50 y_T_gust ∈ TT := tm 549 (by decide +kernel) (by decide +kernel)
theorem kl_17 : Cond.methodLink "TentPegsLaw" 53 y_M_gust ∈ TT := tm 1066 (by decide +kernel) (by decide +kernel)
set_option maxHeartbeats 4000000 in
set_option maxRecDepth 100000 in
theorem law_8 {p : Program} {l : Launch} {e : Env} {s : State} {m : MethodId} {args : Array Value} {below : List Frame} {meth : Method} {c : Code} {Q : State → Prop} {D : va_G} {A : Nat → Prop} {cs : Nat → ClassId} {a b : Nat → Nat} {adK adV : Nat → Nat} {sb LL : Nat} {xs : Nat → Int32} {Rel : Mem → Mem → Prop} (C : Cx p s m args c code 4 "TentPegsLaw") (hK : va_K D classes (tys cs) s) (hSx : Sx adK adV A s s.heap) (hX : va_X sb LL xs s s.heap) (hbl : sb < s.heap.size) (hbA : ¬ A sb) (hAa : ∀ q, AC a q → A q) (hAb : ∀ q, AM b q → A q) (hOK : RelOK Rel) (hLL : LL ≤ 320) (i : Nat) (hi : i + 5 ≤ LL) (μ ν : Mem) (hR : Rel μ ν) (kk : ∀ μ ν, Rel μ ν → GA p l e room_1 s m args below meth c Q D A 4 47 1521 (WC a cs μ ++ WM b cs ν) 1243 [(3, .int (nI i)), (2, .ref (b 0)), (1, .ref (a 0)), (0, .ref sb)] []) : GA p l e room_1 s m args below meth c Q D A 4 47 1521 (WC a cs μ ++ WM b cs ν) 410 [(3, .int (nI i)), (2, .ref (b 0)), (1, .ref (a 0)), (0, .ref sb)] [] := by
  obtain ⟨r, μ1, ν1, h1, h2, hR1⟩ := hOK.2.2.2.2.2.2.2.2.1 μ ν hR (xs (nI i + nI 1).toNatClampNeg) (xs (nI i + nI 2).toNatClampNeg)
  refine a_aload_n (pc1 := 411) C d_law_410 rfl rfl 2 rfl ?_
  refine a_aload_n (pc1 := 412) C d_law_411 rfl rfl 3 rfl ?_
  refine a_iload_n (pc1 := 413) C d_law_412 rfl rfl 0 rfl ?_
  refine a_iconst (pc1 := 414) (v := (nI 1)) C d_law_413 rfl (by decide) ?_
  refine a_iadd (pc1 := 415) C d_law_414 rfl ?_
  refine a_sld (pc1 := 416) C hX hbl hbA (law_in (k := 1) (by omega) hLL) d_law_415 rfl ?_
  refine a_aload_n (pc1 := 417) C d_law_416 rfl rfl 3 rfl ?_
  refine a_iload_n (pc1 := 418) C d_law_417 rfl rfl 0 rfl ?_
  refine a_iconst (pc1 := 419) (v := (nI 2)) C d_law_418 rfl (by decide) ?_
  refine a_iadd (pc1 := 420) C d_law_419 rfl ?_
  refine a_sld (pc1 := 421) C hX hbl hbA (law_in (k := 2) (by omega) hLL) d_law_420 rfl ?_
  refine a_callFI (pc1 := 424) (As := [.int (xs ((nI i) + (nI 1)).toNatClampNeg), .int (xs ((nI i) + (nI 2)).toNatClampNeg)]) (rest := []) (b := a 0) C hK 2 (frC a b cs μ ν μ1 hAa) (c_T_gust l D cs a μ (xs ((nI i) + (nI 1)).toNatClampNeg) (xs ((nI i) + (nI 2)).toNatClampNeg) r μ1 h1) s_T_gust kl_16 0 rfl rfl rfl ⟨Nat.le_of_ble_eq_true rfl, Nat.le_of_ble_eq_true rfl⟩ ⟨rfl, rfl⟩ ⟨Nat.le_of_ble_eq_true rfl, Nat.le_of_ble_eq_true rfl⟩ d_law_421 rfl rfl (Nat.le_of_ble_eq_true rfl) ?_
  refine a_aload_n (pc1 := 425) C d_law_424 rfl rfl 1 rfl ?_
  refine a_aload_n (pc1 := 426) C d_law_425 rfl rfl 3 rfl ?_
  refine a_iload_n (pc1 := 427) C d_law_426 rfl rfl 0 rfl ?_
  refine a_iconst (pc1 := 428) (v := (nI 1)) C d_law_427 rfl (by decide) ?_
  refine a_iadd (pc1 := 429) C d_law_428 rfl ?_
  refine a_sld (pc1 := 430) C hX hbl hbA (law_in (k := 1) (by omega) hLL) d_law_429 rfl ?_
  refine a_aload_n (pc1 := 431) C d_law_430 rfl rfl 3 rfl ?_
  refine a_iload_n (pc1 := 432) C d_law_431 rfl rfl 0 rfl ?_
  refine a_iconst (pc1 := 433) (v := (nI 2)) C d_law_432 rfl (by decide) ?_
  refine a_iadd (pc1 := 434) C d_law_433 rfl ?_
  refine a_sld (pc1 := 435) C hX hbl hbA (law_in (k := 2) (by omega) hLL) d_law_434 rfl ?_
  refine a_callFI (pc1 := 438) (As := [.int (xs ((nI i) + (nI 1)).toNatClampNeg), .int (xs ((nI i) + (nI 2)).toNatClampNeg)]) (rest := [.int r]) (b := b 0) C hK 2 (frM a b cs μ1 ν ν1 hAb) (c_M_gust l D cs b ν (xs ((nI i) + (nI 1)).toNatClampNeg) (xs ((nI i) + (nI 2)).toNatClampNeg) r ν1 h2) s_M_gust kl_17 36 rfl rfl rfl ⟨Nat.le_of_ble_eq_true rfl, Nat.le_of_ble_eq_true rfl⟩ ⟨rfl, rfl⟩ ⟨Nat.le_of_ble_eq_true rfl, Nat.le_of_ble_eq_true rfl⟩ d_law_435 rfl rfl (Nat.le_of_ble_eq_true rfl) ?_
  refine a_icmp_eq (pc1 := 441) C 1243 d_law_438 rfl (by decide) (fun _ => ?_) (fun c3 => absurd rfl c3)
  exact kk μ1 ν1 hR1
theorem kl_18 : Cond.methodLink "TentPegsLaw" 54 y_T_stand ∈ TT := tm 645 (by decide +kernel) (by decide +kernel)
theorem kl_19 : Cond.methodLink "TentPegsLaw" 57 y_M_stand ∈ TT := tm 1124 (by decide +kernel) (by decide +kernel)
set_option maxHeartbeats 4000000 in
set_option maxRecDepth 100000 in
theorem law_9 {p : Program} {l : Launch} {e : Env} {s : State} {m : MethodId} {args : Array Value} {below : List Frame} {meth : Method} {c : Code} {Q : State → Prop} {D : va_G} {A : Nat → Prop} {cs : Nat → ClassId} {a b : Nat → Nat} {adK adV : Nat → Nat} {sb LL : Nat} {xs : Nat → Int32} {Rel : Mem → Mem → Prop} (C : Cx p s m args c code 4 "TentPegsLaw") (hK : va_K D classes (tys cs) s) (hSx : Sx adK adV A s s.heap) (hX : va_X sb LL xs s s.heap) (hbl : sb < s.heap.size) (hbA : ¬ A sb) (hAa : ∀ q, AC a q → A q) (hAb : ∀ q, AM b q → A q) (hOK : RelOK Rel) (hLL : LL ≤ 320) (i : Nat) (hi : i + 5 ≤ LL) (μ ν : Mem) (hR : Rel μ ν) (kk : ∀ μ ν, Rel μ ν → GA p l e room_1 s m args below meth c Q D A 4 47 1521 (WC a cs μ ++ WM b cs ν) 1243 [(3, .int (nI i)), (2, .ref (b 0)), (1, .ref (a 0)), (0, .ref sb)] []) : GA p l e room_1 s m args below meth c Q D A 4 47 1521 (WC a cs μ ++ WM b cs ν) 443 [(3, .int (nI i)), (2, .ref (b 0)), (1, .ref (a 0)), (0, .ref sb)] [] := by
  obtain ⟨r, μ1, ν1, h1, h2, hR1⟩ := hOK.2.2.2.2.2.2.2.2.2.1 μ ν hR (xs (nI i + nI 1).toNatClampNeg) (xs (nI i + nI 2).toNatClampNeg)
  refine a_aload_n (pc1 := 444) C d_law_443 rfl rfl 2 rfl ?_
  refine a_aload_n (pc1 := 445) C d_law_444 rfl rfl 3 rfl ?_
  refine a_iload_n (pc1 := 446) C d_law_445 rfl rfl 0 rfl ?_
  refine a_iconst (pc1 := 447) (v := (nI 1)) C d_law_446 rfl (by decide) ?_
  refine a_iadd (pc1 := 448) C d_law_447 rfl ?_
  refine a_sld (pc1 := 449) C hX hbl hbA (law_in (k := 1) (by omega) hLL) d_law_448 rfl ?_
  refine a_aload_n (pc1 := 450) C d_law_449 rfl rfl 3 rfl ?_
  refine a_iload_n (pc1 := 451) C d_law_450 rfl rfl 0 rfl ?_
  refine a_iconst (pc1 := 452) (v := (nI 2)) C d_law_451 rfl (by decide) ?_
  refine a_iadd (pc1 := 453) C d_law_452 rfl ?_
  refine a_sld (pc1 := 454) C hX hbl hbA (law_in (k := 2) (by omega) hLL) d_law_453 rfl ?_
  refine a_if_eq (pc1 := 457) C 461 d_law_454 rfl (by decide) (fun c1 => ?_) (fun c1 => ?_)
  · rw [if_pos c1] at h1 h2
    refine a_iconst (pc1 := 462) (v := 0) C d_law_461 rfl (by decide) ?_
    refine a_callFI (pc1 := 465) (As := [.int (xs ((nI i) + (nI 1)).toNatClampNeg), .int 0]) (rest := []) (b := a 0) C hK 2 (frC a b cs μ ν μ1 hAa) (c_T_stand l D cs a μ (xs ((nI i) + (nI 1)).toNatClampNeg) 0 r μ1 h1) s_T_stand kl_18 0 rfl rfl rfl ⟨Nat.le_of_ble_eq_true rfl, Nat.le_of_ble_eq_true rfl⟩ ⟨rfl, rfl⟩ ⟨Nat.le_of_ble_eq_true rfl, Nat.le_of_ble_eq_true rfl⟩ d_law_462 rfl rfl (Nat.le_of_ble_eq_true rfl) ?_
    refine a_aload_n (pc1 := 466) C d_law_465 rfl rfl 1 rfl ?_
    refine a_aload_n (pc1 := 467) C d_law_466 rfl rfl 3 rfl ?_
    refine a_iload_n (pc1 := 468) C d_law_467 rfl rfl 0 rfl ?_
    refine a_iconst (pc1 := 469) (v := (nI 1)) C d_law_468 rfl (by decide) ?_
    refine a_iadd (pc1 := 470) C d_law_469 rfl ?_
    refine a_sld (pc1 := 471) C hX hbl hbA (law_in (k := 1) (by omega) hLL) d_law_470 rfl ?_
    refine a_aload_n (pc1 := 472) C d_law_471 rfl rfl 3 rfl ?_
    refine a_iload_n (pc1 := 473) C d_law_472 rfl rfl 0 rfl ?_
    refine a_iconst (pc1 := 474) (v := (nI 2)) C d_law_473 rfl (by decide) ?_
    refine a_iadd (pc1 := 475) C d_law_474 rfl ?_
    refine a_sld (pc1 := 476) C hX hbl hbA (law_in (k := 2) (by omega) hLL) d_law_475 rfl ?_
    refine a_if_eq (pc1 := 479) C 483 d_law_476 rfl (by decide) (fun c2 => ?_) (fun c2 => absurd c1 c2)
    refine a_iconst (pc1 := 484) (v := 0) C d_law_483 rfl (by decide) ?_
    refine a_callFI (pc1 := 487) (As := [.int (xs ((nI i) + (nI 1)).toNatClampNeg), .int 0]) (rest := [.int r]) (b := b 0) C hK 2 (frM a b cs μ1 ν ν1 hAb) (c_M_stand l D cs b ν (xs ((nI i) + (nI 1)).toNatClampNeg) 0 r ν1 h2) s_M_stand kl_19 36 rfl rfl rfl ⟨Nat.le_of_ble_eq_true rfl, Nat.le_of_ble_eq_true rfl⟩ ⟨rfl, rfl⟩ ⟨Nat.le_of_ble_eq_true rfl, Nat.le_of_ble_eq_true rfl⟩ d_law_484 rfl rfl (Nat.le_of_ble_eq_true rfl) ?_
    refine a_icmp_eq (pc1 := 490) C 1243 d_law_487 rfl (by decide) (fun _ => ?_) (fun c3 => absurd rfl c3)
    exact kk μ1 ν1 hR1
  · rw [if_neg c1] at h1 h2
    refine a_iconst (pc1 := 458) (v := 1) C d_law_457 rfl (by decide) ?_
    refine a_goto C 462 d_law_458 (by decide) ?_
    refine a_callFI (pc1 := 465) (As := [.int (xs ((nI i) + (nI 1)).toNatClampNeg), .int 1]) (rest := []) (b := a 0) C hK 2 (frC a b cs μ ν μ1 hAa) (c_T_stand l D cs a μ (xs ((nI i) + (nI 1)).toNatClampNeg) 1 r μ1 h1) s_T_stand kl_18 0 rfl rfl rfl ⟨Nat.le_of_ble_eq_true rfl, Nat.le_of_ble_eq_true rfl⟩ ⟨rfl, rfl⟩ ⟨Nat.le_of_ble_eq_true rfl, Nat.le_of_ble_eq_true rfl⟩ d_law_462 rfl rfl (Nat.le_of_ble_eq_true rfl) ?_
    refine a_aload_n (pc1 := 466) C d_law_465 rfl rfl 1 rfl ?_
    refine a_aload_n (pc1 := 467) C d_law_466 rfl rfl 3 rfl ?_
    refine a_iload_n (pc1 := 468) C d_law_467 rfl rfl 0 rfl ?_
    refine a_iconst (pc1 := 469) (v := (nI 1)) C d_law_468 rfl (by decide) ?_
    refine a_iadd (pc1 := 470) C d_law_469 rfl ?_
    refine a_sld (pc1 := 471) C hX hbl hbA (law_in (k := 1) (by omega) hLL) d_law_470 rfl ?_
    refine a_aload_n (pc1 := 472) C d_law_471 rfl rfl 3 rfl ?_
    refine a_iload_n (pc1 := 473) C d_law_472 rfl rfl 0 rfl ?_
    refine a_iconst (pc1 := 474) (v := (nI 2)) C d_law_473 rfl (by decide) ?_
    refine a_iadd (pc1 := 475) C d_law_474 rfl ?_
    refine a_sld (pc1 := 476) C hX hbl hbA (law_in (k := 2) (by omega) hLL) d_law_475 rfl ?_
    refine a_if_eq (pc1 := 479) C 483 d_law_476 rfl (by decide) (fun c2 => absurd c2 c1) (fun c2 => ?_)
    refine a_iconst (pc1 := 480) (v := 1) C d_law_479 rfl (by decide) ?_
    refine a_goto C 484 d_law_480 (by decide) ?_
    refine a_callFI (pc1 := 487) (As := [.int (xs ((nI i) + (nI 1)).toNatClampNeg), .int 1]) (rest := [.int r]) (b := b 0) C hK 2 (frM a b cs μ1 ν ν1 hAb) (c_M_stand l D cs b ν (xs ((nI i) + (nI 1)).toNatClampNeg) 1 r ν1 h2) s_M_stand kl_19 36 rfl rfl rfl ⟨Nat.le_of_ble_eq_true rfl, Nat.le_of_ble_eq_true rfl⟩ ⟨rfl, rfl⟩ ⟨Nat.le_of_ble_eq_true rfl, Nat.le_of_ble_eq_true rfl⟩ d_law_484 rfl rfl (Nat.le_of_ble_eq_true rfl) ?_
    refine a_icmp_eq (pc1 := 490) C 1243 d_law_487 rfl (by decide) (fun _ => ?_) (fun c3 => absurd rfl c3)
    exact kk μ1 ν1 hR1
theorem kl_20 : Cond.methodLink "TentPegsLaw" 58 y_T_undo ∈ TT := tm 652 (by decide +kernel) (by decide +kernel)
theorem kl_21 : Cond.methodLink "TentPegsLaw" 61 y_M_undo ∈ TT := tm 1128 (by decide +kernel) (by decide +kernel)
set_option maxHeartbeats 4000000 in
set_option maxRecDepth 100000 in
theorem law_10 {p : Program} {l : Launch} {e : Env} {s : State} {m : MethodId} {args : Array Value} {below : List Frame} {meth : Method} {c : Code} {Q : State → Prop} {D : va_G} {A : Nat → Prop} {cs : Nat → ClassId} {a b : Nat → Nat} {adK adV : Nat → Nat} {sb LL : Nat} {xs : Nat → Int32} {Rel : Mem → Mem → Prop} (C : Cx p s m args c code 4 "TentPegsLaw") (hK : va_K D classes (tys cs) s) (hSx : Sx adK adV A s s.heap) (hX : va_X sb LL xs s s.heap) (hbl : sb < s.heap.size) (hbA : ¬ A sb) (hAa : ∀ q, AC a q → A q) (hAb : ∀ q, AM b q → A q) (hOK : RelOK Rel) (hLL : LL ≤ 320) (i : Nat) (hi : i + 5 ≤ LL) (μ ν : Mem) (hR : Rel μ ν) (kk : ∀ μ ν, Rel μ ν → GA p l e room_1 s m args below meth c Q D A 4 47 1521 (WC a cs μ ++ WM b cs ν) 1243 [(3, .int (nI i)), (2, .ref (b 0)), (1, .ref (a 0)), (0, .ref sb)] []) : GA p l e room_1 s m args below meth c Q D A 4 47 1521 (WC a cs μ ++ WM b cs ν) 492 [(3, .int (nI i)), (2, .ref (b 0)), (1, .ref (a 0)), (0, .ref sb)] [] := by
  obtain ⟨r, μ1, ν1, h1, h2, hR1⟩ := hOK.2.2.2.2.2.2.2.2.2.2.1 μ ν hR 
  refine a_aload_n (pc1 := 493) C d_law_492 rfl rfl 2 rfl ?_
  refine a_callFI (pc1 := 496) (As := []) (rest := []) (b := a 0) C hK 0 (frC a b cs μ ν μ1 hAa) (c_T_undo l D cs a μ  r μ1 h1) s_T_undo kl_20 0 rfl rfl rfl ⟨Nat.le_of_ble_eq_true rfl, Nat.le_of_ble_eq_true rfl⟩ ⟨rfl, rfl⟩ ⟨Nat.le_of_ble_eq_true rfl, Nat.le_of_ble_eq_true rfl⟩ d_law_493 rfl rfl (Nat.le_of_ble_eq_true rfl) ?_
  refine a_aload_n (pc1 := 497) C d_law_496 rfl rfl 1 rfl ?_
  refine a_callFI (pc1 := 500) (As := []) (rest := [.int r]) (b := b 0) C hK 0 (frM a b cs μ1 ν ν1 hAb) (c_M_undo l D cs b ν  r ν1 h2) s_M_undo kl_21 36 rfl rfl rfl ⟨Nat.le_of_ble_eq_true rfl, Nat.le_of_ble_eq_true rfl⟩ ⟨rfl, rfl⟩ ⟨Nat.le_of_ble_eq_true rfl, Nat.le_of_ble_eq_true rfl⟩ d_law_497 rfl rfl (Nat.le_of_ble_eq_true rfl) ?_
  refine a_icmp_eq (pc1 := 503) C 1243 d_law_500 rfl (by decide) (fun _ => ?_) (fun c3 => absurd rfl c3)
  exact kk μ1 ν1 hR1
theorem kl_22 : Cond.methodLink "TentPegsLaw" 62 y_T_of ∈ TT := tm 660 (by decide +kernel) (by decide +kernel)
theorem kl_23 : Cond.methodLink "TentPegsLaw" 65 y_M_of ∈ TT := tm 1132 (by decide +kernel) (by decide +kernel)
set_option maxHeartbeats 4000000 in
set_option maxRecDepth 100000 in
theorem law_11 {p : Program} {l : Launch} {e : Env} {s : State} {m : MethodId} {args : Array Value} {below : List Frame} {meth : Method} {c : Code} {Q : State → Prop} {D : va_G} {A : Nat → Prop} {cs : Nat → ClassId} {a b : Nat → Nat} {adK adV : Nat → Nat} {sb LL : Nat} {xs : Nat → Int32} {Rel : Mem → Mem → Prop} (C : Cx p s m args c code 4 "TentPegsLaw") (hK : va_K D classes (tys cs) s) (hSx : Sx adK adV A s s.heap) (hX : va_X sb LL xs s s.heap) (hbl : sb < s.heap.size) (hbA : ¬ A sb) (hAa : ∀ q, AC a q → A q) (hAb : ∀ q, AM b q → A q) (hOK : RelOK Rel) (hLL : LL ≤ 320) (i : Nat) (hi : i + 5 ≤ LL) (μ ν : Mem) (hR : Rel μ ν) (kk : ∀ μ ν, Rel μ ν → GA p l e room_1 s m args below meth c Q D A 4 47 1521 (WC a cs μ ++ WM b cs ν) 1243 [(3, .int (nI i)), (2, .ref (b 0)), (1, .ref (a 0)), (0, .ref sb)] []) : GA p l e room_1 s m args below meth c Q D A 4 47 1521 (WC a cs μ ++ WM b cs ν) 505 [(3, .int (nI i)), (2, .ref (b 0)), (1, .ref (a 0)), (0, .ref sb)] [] := by
  obtain ⟨r, μ1, ν1, h1, h2, hR1⟩ := hOK.2.2.2.2.2.2.2.2.2.2.2.1 μ ν hR (xs (nI i + nI 1).toNatClampNeg) (xs (nI i + nI 2).toNatClampNeg)
  refine a_aload_n (pc1 := 506) C d_law_505 rfl rfl 2 rfl ?_
  refine a_aload_n (pc1 := 507) C d_law_506 rfl rfl 3 rfl ?_
  refine a_iload_n (pc1 := 508) C d_law_507 rfl rfl 0 rfl ?_
  refine a_iconst (pc1 := 509) (v := (nI 1)) C d_law_508 rfl (by decide) ?_
  refine a_iadd (pc1 := 510) C d_law_509 rfl ?_
  refine a_sld (pc1 := 511) C hX hbl hbA (law_in (k := 1) (by omega) hLL) d_law_510 rfl ?_
  refine a_aload_n (pc1 := 512) C d_law_511 rfl rfl 3 rfl ?_
  refine a_iload_n (pc1 := 513) C d_law_512 rfl rfl 0 rfl ?_
  refine a_iconst (pc1 := 514) (v := (nI 2)) C d_law_513 rfl (by decide) ?_
  refine a_iadd (pc1 := 515) C d_law_514 rfl ?_
  refine a_sld (pc1 := 516) C hX hbl hbA (law_in (k := 2) (by omega) hLL) d_law_515 rfl ?_
  refine a_callFI (pc1 := 519) (As := [.int (xs ((nI i) + (nI 1)).toNatClampNeg), .int (xs ((nI i) + (nI 2)).toNatClampNeg)]) (rest := []) (b := a 0) C hK 2 (frC a b cs μ ν μ1 hAa) (c_T_of l D cs a μ (xs ((nI i) + (nI 1)).toNatClampNeg) (xs ((nI i) + (nI 2)).toNatClampNeg) r μ1 h1) s_T_of kl_22 0 rfl rfl rfl ⟨Nat.le_of_ble_eq_true rfl, Nat.le_of_ble_eq_true rfl⟩ ⟨rfl, rfl⟩ ⟨Nat.le_of_ble_eq_true rfl, Nat.le_of_ble_eq_true rfl⟩ d_law_516 rfl rfl (Nat.le_of_ble_eq_true rfl) ?_
  refine a_aload_n (pc1 := 520) C d_law_519 rfl rfl 1 rfl ?_
  refine a_aload_n (pc1 := 521) C d_law_520 rfl rfl 3 rfl ?_
  refine a_iload_n (pc1 := 522) C d_law_521 rfl rfl 0 rfl ?_
  refine a_iconst (pc1 := 523) (v := (nI 1)) C d_law_522 rfl (by decide) ?_
  refine a_iadd (pc1 := 524) C d_law_523 rfl ?_
  refine a_sld (pc1 := 525) C hX hbl hbA (law_in (k := 1) (by omega) hLL) d_law_524 rfl ?_
  refine a_aload_n (pc1 := 526) C d_law_525 rfl rfl 3 rfl ?_
  refine a_iload_n (pc1 := 527) C d_law_526 rfl rfl 0 rfl ?_
  refine a_iconst (pc1 := 528) (v := (nI 2)) C d_law_527 rfl (by decide) ?_
  refine a_iadd (pc1 := 529) C d_law_528 rfl ?_
  refine a_sld (pc1 := 530) C hX hbl hbA (law_in (k := 2) (by omega) hLL) d_law_529 rfl ?_
  refine a_callFI (pc1 := 533) (As := [.int (xs ((nI i) + (nI 1)).toNatClampNeg), .int (xs ((nI i) + (nI 2)).toNatClampNeg)]) (rest := [.int r]) (b := b 0) C hK 2 (frM a b cs μ1 ν ν1 hAb) (c_M_of l D cs b ν (xs ((nI i) + (nI 1)).toNatClampNeg) (xs ((nI i) + (nI 2)).toNatClampNeg) r ν1 h2) s_M_of kl_23 36 rfl rfl rfl ⟨Nat.le_of_ble_eq_true rfl, Nat.le_of_ble_eq_true rfl⟩ ⟨rfl, rfl⟩ ⟨Nat.le_of_ble_eq_true rfl, Nat.le_of_ble_eq_true rfl⟩ d_law_530 rfl rfl (Nat.le_of_ble_eq_true rfl) ?_
  refine a_icmp_eq (pc1 := 536) C 1243 d_law_533 rfl (by decide) (fun _ => ?_) (fun c3 => absurd rfl c3)
  exact kk μ1 ν1 hR1
theorem kl_24 : Cond.methodLink "TentPegsLaw" 66 y_T_pull ∈ TT := tm 666 (by decide +kernel) (by decide +kernel)
theorem kl_25 : Cond.methodLink "TentPegsLaw" 70 y_M_pull ∈ TT := tm 1136 (by decide +kernel) (by decide +kernel)
set_option maxHeartbeats 4000000 in
set_option maxRecDepth 100000 in
theorem law_12 {p : Program} {l : Launch} {e : Env} {s : State} {m : MethodId} {args : Array Value} {below : List Frame} {meth : Method} {c : Code} {Q : State → Prop} {D : va_G} {A : Nat → Prop} {cs : Nat → ClassId} {a b : Nat → Nat} {adK adV : Nat → Nat} {sb LL : Nat} {xs : Nat → Int32} {Rel : Mem → Mem → Prop} (C : Cx p s m args c code 4 "TentPegsLaw") (hK : va_K D classes (tys cs) s) (hSx : Sx adK adV A s s.heap) (hX : va_X sb LL xs s s.heap) (hbl : sb < s.heap.size) (hbA : ¬ A sb) (hAa : ∀ q, AC a q → A q) (hAb : ∀ q, AM b q → A q) (hOK : RelOK Rel) (hLL : LL ≤ 320) (i : Nat) (hi : i + 5 ≤ LL) (μ ν : Mem) (hR : Rel μ ν) (kk : ∀ μ ν, Rel μ ν → GA p l e room_1 s m args below meth c Q D A 4 47 1521 (WC a cs μ ++ WM b cs ν) 1243 [(3, .int (nI i)), (2, .ref (b 0)), (1, .ref (a 0)), (0, .ref sb)] []) : GA p l e room_1 s m args below meth c Q D A 4 47 1521 (WC a cs μ ++ WM b cs ν) 538 [(3, .int (nI i)), (2, .ref (b 0)), (1, .ref (a 0)), (0, .ref sb)] [] := by
  obtain ⟨r, μ1, ν1, h1, h2, hR1⟩ := hOK.2.2.2.2.2.2.2.2.2.2.2.2.1 μ ν hR (xs (nI i + nI 1).toNatClampNeg) (xs (nI i + nI 2).toNatClampNeg) (xs (nI i + nI 3).toNatClampNeg)
  refine a_aload_n (pc1 := 539) C d_law_538 rfl rfl 2 rfl ?_
  refine a_aload_n (pc1 := 540) C d_law_539 rfl rfl 3 rfl ?_
  refine a_iload_n (pc1 := 541) C d_law_540 rfl rfl 0 rfl ?_
  refine a_iconst (pc1 := 542) (v := (nI 1)) C d_law_541 rfl (by decide) ?_
  refine a_iadd (pc1 := 543) C d_law_542 rfl ?_
  refine a_sld (pc1 := 544) C hX hbl hbA (law_in (k := 1) (by omega) hLL) d_law_543 rfl ?_
  refine a_aload_n (pc1 := 545) C d_law_544 rfl rfl 3 rfl ?_
  refine a_iload_n (pc1 := 546) C d_law_545 rfl rfl 0 rfl ?_
  refine a_iconst (pc1 := 547) (v := (nI 2)) C d_law_546 rfl (by decide) ?_
  refine a_iadd (pc1 := 548) C d_law_547 rfl ?_
  refine a_sld (pc1 := 549) C hX hbl hbA (law_in (k := 2) (by omega) hLL) d_law_548 rfl ?_
  refine a_aload_n (pc1 := 550) C d_law_549 rfl rfl 3 rfl ?_
  refine a_iload_n (pc1 := 551) C d_law_550 rfl rfl 0 rfl ?_
  refine a_iconst (pc1 := 552) (v := (nI 3)) C d_law_551 rfl (by decide) ?_
  refine a_iadd (pc1 := 553) C d_law_552 rfl ?_
  refine a_sld (pc1 := 554) C hX hbl hbA (law_in (k := 3) (by omega) hLL) d_law_553 rfl ?_
  refine a_callFI (pc1 := 557) (As := [.int (xs ((nI i) + (nI 1)).toNatClampNeg), .int (xs ((nI i) + (nI 2)).toNatClampNeg), .int (xs ((nI i) + (nI 3)).toNatClampNeg)]) (rest := []) (b := a 0) C hK 3 (frC a b cs μ ν μ1 hAa) (c_T_pull l D cs a μ (xs ((nI i) + (nI 1)).toNatClampNeg) (xs ((nI i) + (nI 2)).toNatClampNeg) (xs ((nI i) + (nI 3)).toNatClampNeg) r μ1 h1) s_T_pull kl_24 0 rfl rfl rfl ⟨Nat.le_of_ble_eq_true rfl, Nat.le_of_ble_eq_true rfl⟩ ⟨rfl, rfl⟩ ⟨Nat.le_of_ble_eq_true rfl, Nat.le_of_ble_eq_true rfl⟩ d_law_554 rfl rfl (Nat.le_of_ble_eq_true rfl) ?_
  refine a_aload_n (pc1 := 558) C d_law_557 rfl rfl 1 rfl ?_
  refine a_aload_n (pc1 := 559) C d_law_558 rfl rfl 3 rfl ?_
  refine a_iload_n (pc1 := 560) C d_law_559 rfl rfl 0 rfl ?_
  refine a_iconst (pc1 := 561) (v := (nI 1)) C d_law_560 rfl (by decide) ?_
  refine a_iadd (pc1 := 562) C d_law_561 rfl ?_
  refine a_sld (pc1 := 563) C hX hbl hbA (law_in (k := 1) (by omega) hLL) d_law_562 rfl ?_
  refine a_aload_n (pc1 := 564) C d_law_563 rfl rfl 3 rfl ?_
  refine a_iload_n (pc1 := 565) C d_law_564 rfl rfl 0 rfl ?_
  refine a_iconst (pc1 := 566) (v := (nI 2)) C d_law_565 rfl (by decide) ?_
  refine a_iadd (pc1 := 567) C d_law_566 rfl ?_
  refine a_sld (pc1 := 568) C hX hbl hbA (law_in (k := 2) (by omega) hLL) d_law_567 rfl ?_
  refine a_aload_n (pc1 := 569) C d_law_568 rfl rfl 3 rfl ?_
  refine a_iload_n (pc1 := 570) C d_law_569 rfl rfl 0 rfl ?_
  refine a_iconst (pc1 := 571) (v := (nI 3)) C d_law_570 rfl (by decide) ?_
  refine a_iadd (pc1 := 572) C d_law_571 rfl ?_
  refine a_sld (pc1 := 573) C hX hbl hbA (law_in (k := 3) (by omega) hLL) d_law_572 rfl ?_
  refine a_callFI (pc1 := 576) (As := [.int (xs ((nI i) + (nI 1)).toNatClampNeg), .int (xs ((nI i) + (nI 2)).toNatClampNeg), .int (xs ((nI i) + (nI 3)).toNatClampNeg)]) (rest := [.int r]) (b := b 0) C hK 3 (frM a b cs μ1 ν ν1 hAb) (c_M_pull l D cs b ν (xs ((nI i) + (nI 1)).toNatClampNeg) (xs ((nI i) + (nI 2)).toNatClampNeg) (xs ((nI i) + (nI 3)).toNatClampNeg) r ν1 h2) s_M_pull kl_25 36 rfl rfl rfl ⟨Nat.le_of_ble_eq_true rfl, Nat.le_of_ble_eq_true rfl⟩ ⟨rfl, rfl⟩ ⟨Nat.le_of_ble_eq_true rfl, Nat.le_of_ble_eq_true rfl⟩ d_law_573 rfl rfl (Nat.le_of_ble_eq_true rfl) ?_
  refine a_icmp_eq (pc1 := 579) C 1243 d_law_576 rfl (by decide) (fun _ => ?_) (fun c3 => absurd rfl c3)
  exact kk μ1 ν1 hR1
theorem kl_26 : Cond.methodLink "TentPegsLaw" 71 y_T_first ∈ TT := tm 671 (by decide +kernel) (by decide +kernel)
theorem kl_27 : Cond.methodLink "TentPegsLaw" 74 y_M_first ∈ TT := tm 1144 (by decide +kernel) (by decide +kernel)
set_option maxHeartbeats 4000000 in
set_option maxRecDepth 100000 in
theorem law_13 {p : Program} {l : Launch} {e : Env} {s : State} {m : MethodId} {args : Array Value} {below : List Frame} {meth : Method} {c : Code} {Q : State → Prop} {D : va_G} {A : Nat → Prop} {cs : Nat → ClassId} {a b : Nat → Nat} {adK adV : Nat → Nat} {sb LL : Nat} {xs : Nat → Int32} {Rel : Mem → Mem → Prop} (C : Cx p s m args c code 4 "TentPegsLaw") (hK : va_K D classes (tys cs) s) (hSx : Sx adK adV A s s.heap) (hX : va_X sb LL xs s s.heap) (hbl : sb < s.heap.size) (hbA : ¬ A sb) (hAa : ∀ q, AC a q → A q) (hAb : ∀ q, AM b q → A q) (hOK : RelOK Rel) (hLL : LL ≤ 320) (i : Nat) (hi : i + 5 ≤ LL) (μ ν : Mem) (hR : Rel μ ν) (kk : ∀ μ ν, Rel μ ν → GA p l e room_1 s m args below meth c Q D A 4 47 1521 (WC a cs μ ++ WM b cs ν) 1243 [(3, .int (nI i)), (2, .ref (b 0)), (1, .ref (a 0)), (0, .ref sb)] []) : GA p l e room_1 s m args below meth c Q D A 4 47 1521 (WC a cs μ ++ WM b cs ν) 581 [(3, .int (nI i)), (2, .ref (b 0)), (1, .ref (a 0)), (0, .ref sb)] [] := by
  obtain ⟨r, μ1, ν1, h1, h2, hR1⟩ := hOK.2.2.2.2.2.2.2.2.2.2.2.2.2.1 μ ν hR (xs (nI i + nI 1).toNatClampNeg) (xs (nI i + nI 2).toNatClampNeg) (xs (nI i + nI 3).toNatClampNeg)
  refine a_aload_n (pc1 := 582) C d_law_581 rfl rfl 2 rfl ?_
  refine a_aload_n (pc1 := 583) C d_law_582 rfl rfl 3 rfl ?_
  refine a_iload_n (pc1 := 584) C d_law_583 rfl rfl 0 rfl ?_
  refine a_iconst (pc1 := 585) (v := (nI 1)) C d_law_584 rfl (by decide) ?_
  refine a_iadd (pc1 := 586) C d_law_585 rfl ?_
  refine a_sld (pc1 := 587) C hX hbl hbA (law_in (k := 1) (by omega) hLL) d_law_586 rfl ?_
  refine a_aload_n (pc1 := 588) C d_law_587 rfl rfl 3 rfl ?_
  refine a_iload_n (pc1 := 589) C d_law_588 rfl rfl 0 rfl ?_
  refine a_iconst (pc1 := 590) (v := (nI 2)) C d_law_589 rfl (by decide) ?_
  refine a_iadd (pc1 := 591) C d_law_590 rfl ?_
  refine a_sld (pc1 := 592) C hX hbl hbA (law_in (k := 2) (by omega) hLL) d_law_591 rfl ?_
  refine a_aload_n (pc1 := 593) C d_law_592 rfl rfl 3 rfl ?_
  refine a_iload_n (pc1 := 594) C d_law_593 rfl rfl 0 rfl ?_
  refine a_iconst (pc1 := 595) (v := (nI 3)) C d_law_594 rfl (by decide) ?_
  refine a_iadd (pc1 := 596) C d_law_595 rfl ?_
  refine a_sld (pc1 := 597) C hX hbl hbA (law_in (k := 3) (by omega) hLL) d_law_596 rfl ?_
  refine a_callFI (pc1 := 600) (As := [.int (xs ((nI i) + (nI 1)).toNatClampNeg), .int (xs ((nI i) + (nI 2)).toNatClampNeg), .int (xs ((nI i) + (nI 3)).toNatClampNeg)]) (rest := []) (b := a 0) C hK 3 (frC a b cs μ ν μ1 hAa) (c_T_first l D cs a μ (xs ((nI i) + (nI 1)).toNatClampNeg) (xs ((nI i) + (nI 2)).toNatClampNeg) (xs ((nI i) + (nI 3)).toNatClampNeg) r μ1 h1) s_T_first kl_26 0 rfl rfl rfl ⟨Nat.le_of_ble_eq_true rfl, Nat.le_of_ble_eq_true rfl⟩ ⟨rfl, rfl⟩ ⟨Nat.le_of_ble_eq_true rfl, Nat.le_of_ble_eq_true rfl⟩ d_law_597 rfl rfl (Nat.le_of_ble_eq_true rfl) ?_
  refine a_aload_n (pc1 := 601) C d_law_600 rfl rfl 1 rfl ?_
  refine a_aload_n (pc1 := 602) C d_law_601 rfl rfl 3 rfl ?_
  refine a_iload_n (pc1 := 603) C d_law_602 rfl rfl 0 rfl ?_
  refine a_iconst (pc1 := 604) (v := (nI 1)) C d_law_603 rfl (by decide) ?_
  refine a_iadd (pc1 := 605) C d_law_604 rfl ?_
  refine a_sld (pc1 := 606) C hX hbl hbA (law_in (k := 1) (by omega) hLL) d_law_605 rfl ?_
  refine a_aload_n (pc1 := 607) C d_law_606 rfl rfl 3 rfl ?_
  refine a_iload_n (pc1 := 608) C d_law_607 rfl rfl 0 rfl ?_
  refine a_iconst (pc1 := 609) (v := (nI 2)) C d_law_608 rfl (by decide) ?_
  refine a_iadd (pc1 := 610) C d_law_609 rfl ?_
  refine a_sld (pc1 := 611) C hX hbl hbA (law_in (k := 2) (by omega) hLL) d_law_610 rfl ?_
  refine a_aload_n (pc1 := 612) C d_law_611 rfl rfl 3 rfl ?_
  refine a_iload_n (pc1 := 613) C d_law_612 rfl rfl 0 rfl ?_
  refine a_iconst (pc1 := 614) (v := (nI 3)) C d_law_613 rfl (by decide) ?_
  refine a_iadd (pc1 := 615) C d_law_614 rfl ?_
  refine a_sld (pc1 := 616) C hX hbl hbA (law_in (k := 3) (by omega) hLL) d_law_615 rfl ?_
  refine a_callFI (pc1 := 619) (As := [.int (xs ((nI i) + (nI 1)).toNatClampNeg), .int (xs ((nI i) + (nI 2)).toNatClampNeg), .int (xs ((nI i) + (nI 3)).toNatClampNeg)]) (rest := [.int r]) (b := b 0) C hK 3 (frM a b cs μ1 ν ν1 hAb) (c_M_first l D cs b ν (xs ((nI i) + (nI 1)).toNatClampNeg) (xs ((nI i) + (nI 2)).toNatClampNeg) (xs ((nI i) + (nI 3)).toNatClampNeg) r ν1 h2) s_M_first kl_27 36 rfl rfl rfl ⟨Nat.le_of_ble_eq_true rfl, Nat.le_of_ble_eq_true rfl⟩ ⟨rfl, rfl⟩ ⟨Nat.le_of_ble_eq_true rfl, Nat.le_of_ble_eq_true rfl⟩ d_law_616 rfl rfl (Nat.le_of_ble_eq_true rfl) ?_
  refine a_icmp_eq (pc1 := 622) C 1243 d_law_619 rfl (by decide) (fun _ => ?_) (fun c3 => absurd rfl c3)
  exact kk μ1 ν1 hR1
theorem kl_28 : Cond.methodLink "TentPegsLaw" 75 y_T_lost ∈ TT := tm 675 (by decide +kernel) (by decide +kernel)
theorem kl_29 : Cond.methodLink "TentPegsLaw" 78 y_M_lost ∈ TT := tm 1152 (by decide +kernel) (by decide +kernel)
set_option maxHeartbeats 4000000 in
set_option maxRecDepth 100000 in
theorem law_14 {p : Program} {l : Launch} {e : Env} {s : State} {m : MethodId} {args : Array Value} {below : List Frame} {meth : Method} {c : Code} {Q : State → Prop} {D : va_G} {A : Nat → Prop} {cs : Nat → ClassId} {a b : Nat → Nat} {adK adV : Nat → Nat} {sb LL : Nat} {xs : Nat → Int32} {Rel : Mem → Mem → Prop} (C : Cx p s m args c code 4 "TentPegsLaw") (hK : va_K D classes (tys cs) s) (hSx : Sx adK adV A s s.heap) (hX : va_X sb LL xs s s.heap) (hbl : sb < s.heap.size) (hbA : ¬ A sb) (hAa : ∀ q, AC a q → A q) (hAb : ∀ q, AM b q → A q) (hOK : RelOK Rel) (hLL : LL ≤ 320) (i : Nat) (hi : i + 5 ≤ LL) (μ ν : Mem) (hR : Rel μ ν) (kk : ∀ μ ν, Rel μ ν → GA p l e room_1 s m args below meth c Q D A 4 47 1521 (WC a cs μ ++ WM b cs ν) 1243 [(3, .int (nI i)), (2, .ref (b 0)), (1, .ref (a 0)), (0, .ref sb)] []) : GA p l e room_1 s m args below meth c Q D A 4 47 1521 (WC a cs μ ++ WM b cs ν) 624 [(3, .int (nI i)), (2, .ref (b 0)), (1, .ref (a 0)), (0, .ref sb)] [] := by
  obtain ⟨r, μ1, ν1, h1, h2, hR1⟩ := hOK.2.2.2.2.2.2.2.2.2.2.2.2.2.2.1 μ ν hR (xs (nI i + nI 1).toNatClampNeg) (xs (nI i + nI 2).toNatClampNeg) (xs (nI i + nI 3).toNatClampNeg)
  refine a_aload_n (pc1 := 625) C d_law_624 rfl rfl 2 rfl ?_
  refine a_aload_n (pc1 := 626) C d_law_625 rfl rfl 3 rfl ?_
  refine a_iload_n (pc1 := 627) C d_law_626 rfl rfl 0 rfl ?_
  refine a_iconst (pc1 := 628) (v := (nI 1)) C d_law_627 rfl (by decide) ?_
  refine a_iadd (pc1 := 629) C d_law_628 rfl ?_
  refine a_sld (pc1 := 630) C hX hbl hbA (law_in (k := 1) (by omega) hLL) d_law_629 rfl ?_
  refine a_aload_n (pc1 := 631) C d_law_630 rfl rfl 3 rfl ?_
  refine a_iload_n (pc1 := 632) C d_law_631 rfl rfl 0 rfl ?_
  refine a_iconst (pc1 := 633) (v := (nI 2)) C d_law_632 rfl (by decide) ?_
  refine a_iadd (pc1 := 634) C d_law_633 rfl ?_
  refine a_sld (pc1 := 635) C hX hbl hbA (law_in (k := 2) (by omega) hLL) d_law_634 rfl ?_
  refine a_aload_n (pc1 := 636) C d_law_635 rfl rfl 3 rfl ?_
  refine a_iload_n (pc1 := 637) C d_law_636 rfl rfl 0 rfl ?_
  refine a_iconst (pc1 := 638) (v := (nI 3)) C d_law_637 rfl (by decide) ?_
  refine a_iadd (pc1 := 639) C d_law_638 rfl ?_
  refine a_sld (pc1 := 640) C hX hbl hbA (law_in (k := 3) (by omega) hLL) d_law_639 rfl ?_
  refine a_callFI (pc1 := 643) (As := [.int (xs ((nI i) + (nI 1)).toNatClampNeg), .int (xs ((nI i) + (nI 2)).toNatClampNeg), .int (xs ((nI i) + (nI 3)).toNatClampNeg)]) (rest := []) (b := a 0) C hK 3 (frC a b cs μ ν μ1 hAa) (c_T_lost l D cs a μ (xs ((nI i) + (nI 1)).toNatClampNeg) (xs ((nI i) + (nI 2)).toNatClampNeg) (xs ((nI i) + (nI 3)).toNatClampNeg) r μ1 h1) s_T_lost kl_28 0 rfl rfl rfl ⟨Nat.le_of_ble_eq_true rfl, Nat.le_of_ble_eq_true rfl⟩ ⟨rfl, rfl⟩ ⟨Nat.le_of_ble_eq_true rfl, Nat.le_of_ble_eq_true rfl⟩ d_law_640 rfl rfl (Nat.le_of_ble_eq_true rfl) ?_
  refine a_aload_n (pc1 := 644) C d_law_643 rfl rfl 1 rfl ?_
  refine a_aload_n (pc1 := 645) C d_law_644 rfl rfl 3 rfl ?_
  refine a_iload_n (pc1 := 646) C d_law_645 rfl rfl 0 rfl ?_
  refine a_iconst (pc1 := 647) (v := (nI 1)) C d_law_646 rfl (by decide) ?_
  refine a_iadd (pc1 := 648) C d_law_647 rfl ?_
  refine a_sld (pc1 := 649) C hX hbl hbA (law_in (k := 1) (by omega) hLL) d_law_648 rfl ?_
  refine a_aload_n (pc1 := 650) C d_law_649 rfl rfl 3 rfl ?_
  refine a_iload_n (pc1 := 651) C d_law_650 rfl rfl 0 rfl ?_
  refine a_iconst (pc1 := 652) (v := (nI 2)) C d_law_651 rfl (by decide) ?_
  refine a_iadd (pc1 := 653) C d_law_652 rfl ?_
  refine a_sld (pc1 := 654) C hX hbl hbA (law_in (k := 2) (by omega) hLL) d_law_653 rfl ?_
  refine a_aload_n (pc1 := 655) C d_law_654 rfl rfl 3 rfl ?_
  refine a_iload_n (pc1 := 656) C d_law_655 rfl rfl 0 rfl ?_
  refine a_iconst (pc1 := 657) (v := (nI 3)) C d_law_656 rfl (by decide) ?_
  refine a_iadd (pc1 := 658) C d_law_657 rfl ?_
  refine a_sld (pc1 := 659) C hX hbl hbA (law_in (k := 3) (by omega) hLL) d_law_658 rfl ?_
  refine a_callFI (pc1 := 662) (As := [.int (xs ((nI i) + (nI 1)).toNatClampNeg), .int (xs ((nI i) + (nI 2)).toNatClampNeg), .int (xs ((nI i) + (nI 3)).toNatClampNeg)]) (rest := [.int r]) (b := b 0) C hK 3 (frM a b cs μ1 ν ν1 hAb) (c_M_lost l D cs b ν (xs ((nI i) + (nI 1)).toNatClampNeg) (xs ((nI i) + (nI 2)).toNatClampNeg) (xs ((nI i) + (nI 3)).toNatClampNeg) r ν1 h2) s_M_lost kl_29 36 rfl rfl rfl ⟨Nat.le_of_ble_eq_true rfl, Nat.le_of_ble_eq_true rfl⟩ ⟨rfl, rfl⟩ ⟨Nat.le_of_ble_eq_true rfl, Nat.le_of_ble_eq_true rfl⟩ d_law_659 rfl rfl (Nat.le_of_ble_eq_true rfl) ?_
  refine a_icmp_eq (pc1 := 665) C 1243 d_law_662 rfl (by decide) (fun _ => ?_) (fun c3 => absurd rfl c3)
  exact kk μ1 ν1 hR1
theorem kl_30 : Cond.methodLink "TentPegsLaw" 79 y_T_bears ∈ TT := tm 679 (by decide +kernel) (by decide +kernel)
theorem kl_31 : Cond.methodLink "TentPegsLaw" 82 y_M_bears ∈ TT := tm 1156 (by decide +kernel) (by decide +kernel)
set_option maxHeartbeats 4000000 in
set_option maxRecDepth 100000 in
theorem law_15 {p : Program} {l : Launch} {e : Env} {s : State} {m : MethodId} {args : Array Value} {below : List Frame} {meth : Method} {c : Code} {Q : State → Prop} {D : va_G} {A : Nat → Prop} {cs : Nat → ClassId} {a b : Nat → Nat} {adK adV : Nat → Nat} {sb LL : Nat} {xs : Nat → Int32} {Rel : Mem → Mem → Prop} (C : Cx p s m args c code 4 "TentPegsLaw") (hK : va_K D classes (tys cs) s) (hSx : Sx adK adV A s s.heap) (hX : va_X sb LL xs s s.heap) (hbl : sb < s.heap.size) (hbA : ¬ A sb) (hAa : ∀ q, AC a q → A q) (hAb : ∀ q, AM b q → A q) (hOK : RelOK Rel) (hLL : LL ≤ 320) (i : Nat) (hi : i + 5 ≤ LL) (μ ν : Mem) (hR : Rel μ ν) (kk : ∀ μ ν, Rel μ ν → GA p l e room_1 s m args below meth c Q D A 4 47 1521 (WC a cs μ ++ WM b cs ν) 1243 [(3, .int (nI i)), (2, .ref (b 0)), (1, .ref (a 0)), (0, .ref sb)] []) : GA p l e room_1 s m args below meth c Q D A 4 47 1521 (WC a cs μ ++ WM b cs ν) 667 [(3, .int (nI i)), (2, .ref (b 0)), (1, .ref (a 0)), (0, .ref sb)] [] := by
  obtain ⟨r, μ1, ν1, h1, h2, hR1⟩ := hOK.2.2.2.2.2.2.2.2.2.2.2.2.2.2.2.1 μ ν hR (xs (nI i + nI 1).toNatClampNeg)
  refine a_aload_n (pc1 := 668) C d_law_667 rfl rfl 2 rfl ?_
  refine a_aload_n (pc1 := 669) C d_law_668 rfl rfl 3 rfl ?_
  refine a_iload_n (pc1 := 670) C d_law_669 rfl rfl 0 rfl ?_
  refine a_iconst (pc1 := 671) (v := (nI 1)) C d_law_670 rfl (by decide) ?_
  refine a_iadd (pc1 := 672) C d_law_671 rfl ?_
  refine a_sld (pc1 := 673) C hX hbl hbA (law_in (k := 1) (by omega) hLL) d_law_672 rfl ?_
  refine a_callFI (pc1 := 676) (As := [.int (xs ((nI i) + (nI 1)).toNatClampNeg)]) (rest := []) (b := a 0) C hK 1 (frC a b cs μ ν μ1 hAa) (c_T_bears l D cs a μ (xs ((nI i) + (nI 1)).toNatClampNeg) r μ1 h1) s_T_bears kl_30 0 rfl rfl rfl ⟨Nat.le_of_ble_eq_true rfl, Nat.le_of_ble_eq_true rfl⟩ ⟨rfl, rfl⟩ ⟨Nat.le_of_ble_eq_true rfl, Nat.le_of_ble_eq_true rfl⟩ d_law_673 rfl rfl (Nat.le_of_ble_eq_true rfl) ?_
  refine a_aload_n (pc1 := 677) C d_law_676 rfl rfl 1 rfl ?_
  refine a_aload_n (pc1 := 678) C d_law_677 rfl rfl 3 rfl ?_
  refine a_iload_n (pc1 := 679) C d_law_678 rfl rfl 0 rfl ?_
  refine a_iconst (pc1 := 680) (v := (nI 1)) C d_law_679 rfl (by decide) ?_
  refine a_iadd (pc1 := 681) C d_law_680 rfl ?_
  refine a_sld (pc1 := 682) C hX hbl hbA (law_in (k := 1) (by omega) hLL) d_law_681 rfl ?_
  refine a_callFI (pc1 := 685) (As := [.int (xs ((nI i) + (nI 1)).toNatClampNeg)]) (rest := [.int r]) (b := b 0) C hK 1 (frM a b cs μ1 ν ν1 hAb) (c_M_bears l D cs b ν (xs ((nI i) + (nI 1)).toNatClampNeg) r ν1 h2) s_M_bears kl_31 36 rfl rfl rfl ⟨Nat.le_of_ble_eq_true rfl, Nat.le_of_ble_eq_true rfl⟩ ⟨rfl, rfl⟩ ⟨Nat.le_of_ble_eq_true rfl, Nat.le_of_ble_eq_true rfl⟩ d_law_682 rfl rfl (Nat.le_of_ble_eq_true rfl) ?_
  refine a_icmp_eq (pc1 := 688) C 1243 d_law_685 rfl (by decide) (fun _ => ?_) (fun c3 => absurd rfl c3)
  exact kk μ1 ν1 hR1
theorem kl_32 : Cond.methodLink "TentPegsLaw" 83 y_T_twofold ∈ TT := tm 696 (by decide +kernel) (by decide +kernel)
theorem kl_33 : Cond.methodLink "TentPegsLaw" 86 y_M_twofold ∈ TT := tm 1176 (by decide +kernel) (by decide +kernel)
set_option maxHeartbeats 4000000 in
set_option maxRecDepth 100000 in
theorem law_16 {p : Program} {l : Launch} {e : Env} {s : State} {m : MethodId} {args : Array Value} {below : List Frame} {meth : Method} {c : Code} {Q : State → Prop} {D : va_G} {A : Nat → Prop} {cs : Nat → ClassId} {a b : Nat → Nat} {adK adV : Nat → Nat} {sb LL : Nat} {xs : Nat → Int32} {Rel : Mem → Mem → Prop} (C : Cx p s m args c code 4 "TentPegsLaw") (hK : va_K D classes (tys cs) s) (hSx : Sx adK adV A s s.heap) (hX : va_X sb LL xs s s.heap) (hbl : sb < s.heap.size) (hbA : ¬ A sb) (hAa : ∀ q, AC a q → A q) (hAb : ∀ q, AM b q → A q) (hOK : RelOK Rel) (hLL : LL ≤ 320) (i : Nat) (hi : i + 5 ≤ LL) (μ ν : Mem) (hR : Rel μ ν) (kk : ∀ μ ν, Rel μ ν → GA p l e room_1 s m args below meth c Q D A 4 47 1521 (WC a cs μ ++ WM b cs ν) 1243 [(3, .int (nI i)), (2, .ref (b 0)), (1, .ref (a 0)), (0, .ref sb)] []) : GA p l e room_1 s m args below meth c Q D A 4 47 1521 (WC a cs μ ++ WM b cs ν) 690 [(3, .int (nI i)), (2, .ref (b 0)), (1, .ref (a 0)), (0, .ref sb)] [] := by
  obtain ⟨r, μ1, ν1, h1, h2, hR1⟩ := hOK.2.2.2.2.2.2.2.2.2.2.2.2.2.2.2.2.1 μ ν hR (xs (nI i + nI 1).toNatClampNeg) (xs (nI i + nI 2).toNatClampNeg)
  refine a_aload_n (pc1 := 691) C d_law_690 rfl rfl 2 rfl ?_
  refine a_aload_n (pc1 := 692) C d_law_691 rfl rfl 3 rfl ?_
  refine a_iload_n (pc1 := 693) C d_law_692 rfl rfl 0 rfl ?_
  refine a_iconst (pc1 := 694) (v := (nI 1)) C d_law_693 rfl (by decide) ?_
  refine a_iadd (pc1 := 695) C d_law_694 rfl ?_
  refine a_sld (pc1 := 696) C hX hbl hbA (law_in (k := 1) (by omega) hLL) d_law_695 rfl ?_
  refine a_aload_n (pc1 := 697) C d_law_696 rfl rfl 3 rfl ?_
  refine a_iload_n (pc1 := 698) C d_law_697 rfl rfl 0 rfl ?_
  refine a_iconst (pc1 := 699) (v := (nI 2)) C d_law_698 rfl (by decide) ?_
  refine a_iadd (pc1 := 700) C d_law_699 rfl ?_
  refine a_sld (pc1 := 701) C hX hbl hbA (law_in (k := 2) (by omega) hLL) d_law_700 rfl ?_
  refine a_callFI (pc1 := 704) (As := [.int (xs ((nI i) + (nI 1)).toNatClampNeg), .int (xs ((nI i) + (nI 2)).toNatClampNeg)]) (rest := []) (b := a 0) C hK 2 (frC a b cs μ ν μ1 hAa) (c_T_twofold l D cs a μ (xs ((nI i) + (nI 1)).toNatClampNeg) (xs ((nI i) + (nI 2)).toNatClampNeg) r μ1 h1) s_T_twofold kl_32 0 rfl rfl rfl ⟨Nat.le_of_ble_eq_true rfl, Nat.le_of_ble_eq_true rfl⟩ ⟨rfl, rfl⟩ ⟨Nat.le_of_ble_eq_true rfl, Nat.le_of_ble_eq_true rfl⟩ d_law_701 rfl rfl (Nat.le_of_ble_eq_true rfl) ?_
  refine a_aload_n (pc1 := 705) C d_law_704 rfl rfl 1 rfl ?_
  refine a_aload_n (pc1 := 706) C d_law_705 rfl rfl 3 rfl ?_
  refine a_iload_n (pc1 := 707) C d_law_706 rfl rfl 0 rfl ?_
  refine a_iconst (pc1 := 708) (v := (nI 1)) C d_law_707 rfl (by decide) ?_
  refine a_iadd (pc1 := 709) C d_law_708 rfl ?_
  refine a_sld (pc1 := 710) C hX hbl hbA (law_in (k := 1) (by omega) hLL) d_law_709 rfl ?_
  refine a_aload_n (pc1 := 711) C d_law_710 rfl rfl 3 rfl ?_
  refine a_iload_n (pc1 := 712) C d_law_711 rfl rfl 0 rfl ?_
  refine a_iconst (pc1 := 713) (v := (nI 2)) C d_law_712 rfl (by decide) ?_
  refine a_iadd (pc1 := 714) C d_law_713 rfl ?_
  refine a_sld (pc1 := 715) C hX hbl hbA (law_in (k := 2) (by omega) hLL) d_law_714 rfl ?_
  refine a_callFI (pc1 := 718) (As := [.int (xs ((nI i) + (nI 1)).toNatClampNeg), .int (xs ((nI i) + (nI 2)).toNatClampNeg)]) (rest := [.int r]) (b := b 0) C hK 2 (frM a b cs μ1 ν ν1 hAb) (c_M_twofold l D cs b ν (xs ((nI i) + (nI 1)).toNatClampNeg) (xs ((nI i) + (nI 2)).toNatClampNeg) r ν1 h2) s_M_twofold kl_33 36 rfl rfl rfl ⟨Nat.le_of_ble_eq_true rfl, Nat.le_of_ble_eq_true rfl⟩ ⟨rfl, rfl⟩ ⟨Nat.le_of_ble_eq_true rfl, Nat.le_of_ble_eq_true rfl⟩ d_law_715 rfl rfl (Nat.le_of_ble_eq_true rfl) ?_
  refine a_icmp_eq (pc1 := 721) C 1243 d_law_718 rfl (by decide) (fun _ => ?_) (fun c3 => absurd rfl c3)
  exact kk μ1 ν1 hR1
theorem kl_34 : Cond.methodLink "TentPegsLaw" 87 y_T_strokes ∈ TT := tm 712 (by decide +kernel) (by decide +kernel)
theorem kl_35 : Cond.methodLink "TentPegsLaw" 90 y_M_strokes ∈ TT := tm 1184 (by decide +kernel) (by decide +kernel)
set_option maxHeartbeats 4000000 in
set_option maxRecDepth 100000 in
theorem law_17 {p : Program} {l : Launch} {e : Env} {s : State} {m : MethodId} {args : Array Value} {below : List Frame} {meth : Method} {c : Code} {Q : State → Prop} {D : va_G} {A : Nat → Prop} {cs : Nat → ClassId} {a b : Nat → Nat} {adK adV : Nat → Nat} {sb LL : Nat} {xs : Nat → Int32} {Rel : Mem → Mem → Prop} (C : Cx p s m args c code 4 "TentPegsLaw") (hK : va_K D classes (tys cs) s) (hSx : Sx adK adV A s s.heap) (hX : va_X sb LL xs s s.heap) (hbl : sb < s.heap.size) (hbA : ¬ A sb) (hAa : ∀ q, AC a q → A q) (hAb : ∀ q, AM b q → A q) (hOK : RelOK Rel) (hLL : LL ≤ 320) (i : Nat) (hi : i + 5 ≤ LL) (μ ν : Mem) (hR : Rel μ ν) (kk : ∀ μ ν, Rel μ ν → GA p l e room_1 s m args below meth c Q D A 4 47 1521 (WC a cs μ ++ WM b cs ν) 1243 [(3, .int (nI i)), (2, .ref (b 0)), (1, .ref (a 0)), (0, .ref sb)] []) : GA p l e room_1 s m args below meth c Q D A 4 47 1521 (WC a cs μ ++ WM b cs ν) 723 [(3, .int (nI i)), (2, .ref (b 0)), (1, .ref (a 0)), (0, .ref sb)] [] := by
  obtain ⟨r, μ1, ν1, h1, h2, hR1⟩ := hOK.2.2.2.2.2.2.2.2.2.2.2.2.2.2.2.2.2.1 μ ν hR (xs (nI i + nI 1).toNatClampNeg) (xs (nI i + nI 2).toNatClampNeg) (xs (nI i + nI 3).toNatClampNeg)
  refine a_aload_n (pc1 := 724) C d_law_723 rfl rfl 2 rfl ?_
  refine a_aload_n (pc1 := 725) C d_law_724 rfl rfl 3 rfl ?_
  refine a_iload_n (pc1 := 726) C d_law_725 rfl rfl 0 rfl ?_
  refine a_iconst (pc1 := 727) (v := (nI 1)) C d_law_726 rfl (by decide) ?_
  refine a_iadd (pc1 := 728) C d_law_727 rfl ?_
  refine a_sld (pc1 := 729) C hX hbl hbA (law_in (k := 1) (by omega) hLL) d_law_728 rfl ?_
  refine a_aload_n (pc1 := 730) C d_law_729 rfl rfl 3 rfl ?_
  refine a_iload_n (pc1 := 731) C d_law_730 rfl rfl 0 rfl ?_
  refine a_iconst (pc1 := 732) (v := (nI 2)) C d_law_731 rfl (by decide) ?_
  refine a_iadd (pc1 := 733) C d_law_732 rfl ?_
  refine a_sld (pc1 := 734) C hX hbl hbA (law_in (k := 2) (by omega) hLL) d_law_733 rfl ?_
  refine a_aload_n (pc1 := 735) C d_law_734 rfl rfl 3 rfl ?_
  refine a_iload_n (pc1 := 736) C d_law_735 rfl rfl 0 rfl ?_
  refine a_iconst (pc1 := 737) (v := (nI 3)) C d_law_736 rfl (by decide) ?_
  refine a_iadd (pc1 := 738) C d_law_737 rfl ?_
  refine a_sld (pc1 := 739) C hX hbl hbA (law_in (k := 3) (by omega) hLL) d_law_738 rfl ?_
  refine a_callFI (pc1 := 742) (As := [.int (xs ((nI i) + (nI 1)).toNatClampNeg), .int (xs ((nI i) + (nI 2)).toNatClampNeg), .int (xs ((nI i) + (nI 3)).toNatClampNeg)]) (rest := []) (b := a 0) C hK 3 (frC a b cs μ ν μ1 hAa) (c_T_strokes l D cs a μ (xs ((nI i) + (nI 1)).toNatClampNeg) (xs ((nI i) + (nI 2)).toNatClampNeg) (xs ((nI i) + (nI 3)).toNatClampNeg) r μ1 h1) s_T_strokes kl_34 0 rfl rfl rfl ⟨Nat.le_of_ble_eq_true rfl, Nat.le_of_ble_eq_true rfl⟩ ⟨rfl, rfl⟩ ⟨Nat.le_of_ble_eq_true rfl, Nat.le_of_ble_eq_true rfl⟩ d_law_739 rfl rfl (Nat.le_of_ble_eq_true rfl) ?_
  refine a_aload_n (pc1 := 743) C d_law_742 rfl rfl 1 rfl ?_
  refine a_aload_n (pc1 := 744) C d_law_743 rfl rfl 3 rfl ?_
  refine a_iload_n (pc1 := 745) C d_law_744 rfl rfl 0 rfl ?_
  refine a_iconst (pc1 := 746) (v := (nI 1)) C d_law_745 rfl (by decide) ?_
  refine a_iadd (pc1 := 747) C d_law_746 rfl ?_
  refine a_sld (pc1 := 748) C hX hbl hbA (law_in (k := 1) (by omega) hLL) d_law_747 rfl ?_
  refine a_aload_n (pc1 := 749) C d_law_748 rfl rfl 3 rfl ?_
  refine a_iload_n (pc1 := 750) C d_law_749 rfl rfl 0 rfl ?_
  refine a_iconst (pc1 := 751) (v := (nI 2)) C d_law_750 rfl (by decide) ?_
  refine a_iadd (pc1 := 752) C d_law_751 rfl ?_
  refine a_sld (pc1 := 753) C hX hbl hbA (law_in (k := 2) (by omega) hLL) d_law_752 rfl ?_
  refine a_aload_n (pc1 := 754) C d_law_753 rfl rfl 3 rfl ?_
  refine a_iload_n (pc1 := 755) C d_law_754 rfl rfl 0 rfl ?_
  refine a_iconst (pc1 := 756) (v := (nI 3)) C d_law_755 rfl (by decide) ?_
  refine a_iadd (pc1 := 757) C d_law_756 rfl ?_
  refine a_sld (pc1 := 758) C hX hbl hbA (law_in (k := 3) (by omega) hLL) d_law_757 rfl ?_
  refine a_callFI (pc1 := 761) (As := [.int (xs ((nI i) + (nI 1)).toNatClampNeg), .int (xs ((nI i) + (nI 2)).toNatClampNeg), .int (xs ((nI i) + (nI 3)).toNatClampNeg)]) (rest := [.int r]) (b := b 0) C hK 3 (frM a b cs μ1 ν ν1 hAb) (c_M_strokes l D cs b ν (xs ((nI i) + (nI 1)).toNatClampNeg) (xs ((nI i) + (nI 2)).toNatClampNeg) (xs ((nI i) + (nI 3)).toNatClampNeg) r ν1 h2) s_M_strokes kl_35 36 rfl rfl rfl ⟨Nat.le_of_ble_eq_true rfl, Nat.le_of_ble_eq_true rfl⟩ ⟨rfl, rfl⟩ ⟨Nat.le_of_ble_eq_true rfl, Nat.le_of_ble_eq_true rfl⟩ d_law_758 rfl rfl (Nat.le_of_ble_eq_true rfl) ?_
  refine a_icmp_eq (pc1 := 764) C 1243 d_law_761 rfl (by decide) (fun _ => ?_) (fun c3 => absurd rfl c3)
  exact kk μ1 ν1 hR1
theorem kl_36 : Cond.methodLink "TentPegsLaw" 91 y_T_chance ∈ TT := tm 727 (by decide +kernel) (by decide +kernel)
theorem kl_37 : Cond.methodLink "TentPegsLaw" 94 y_M_chance ∈ TT := tm 1192 (by decide +kernel) (by decide +kernel)
set_option maxHeartbeats 4000000 in
set_option maxRecDepth 100000 in
theorem law_18 {p : Program} {l : Launch} {e : Env} {s : State} {m : MethodId} {args : Array Value} {below : List Frame} {meth : Method} {c : Code} {Q : State → Prop} {D : va_G} {A : Nat → Prop} {cs : Nat → ClassId} {a b : Nat → Nat} {adK adV : Nat → Nat} {sb LL : Nat} {xs : Nat → Int32} {Rel : Mem → Mem → Prop} (C : Cx p s m args c code 4 "TentPegsLaw") (hK : va_K D classes (tys cs) s) (hSx : Sx adK adV A s s.heap) (hX : va_X sb LL xs s s.heap) (hbl : sb < s.heap.size) (hbA : ¬ A sb) (hAa : ∀ q, AC a q → A q) (hAb : ∀ q, AM b q → A q) (hOK : RelOK Rel) (hLL : LL ≤ 320) (i : Nat) (hi : i + 5 ≤ LL) (μ ν : Mem) (hR : Rel μ ν) (kk : ∀ μ ν, Rel μ ν → GA p l e room_1 s m args below meth c Q D A 4 47 1521 (WC a cs μ ++ WM b cs ν) 1243 [(3, .int (nI i)), (2, .ref (b 0)), (1, .ref (a 0)), (0, .ref sb)] []) : GA p l e room_1 s m args below meth c Q D A 4 47 1521 (WC a cs μ ++ WM b cs ν) 766 [(3, .int (nI i)), (2, .ref (b 0)), (1, .ref (a 0)), (0, .ref sb)] [] := by
  obtain ⟨r, μ1, ν1, h1, h2, hR1⟩ := hOK.2.2.2.2.2.2.2.2.2.2.2.2.2.2.2.2.2.2.1 μ ν hR (xs (nI i + nI 1).toNatClampNeg)
  refine a_aload_n (pc1 := 767) C d_law_766 rfl rfl 2 rfl ?_
  refine a_aload_n (pc1 := 768) C d_law_767 rfl rfl 3 rfl ?_
  refine a_iload_n (pc1 := 769) C d_law_768 rfl rfl 0 rfl ?_
  refine a_iconst (pc1 := 770) (v := (nI 1)) C d_law_769 rfl (by decide) ?_
  refine a_iadd (pc1 := 771) C d_law_770 rfl ?_
  refine a_sld (pc1 := 772) C hX hbl hbA (law_in (k := 1) (by omega) hLL) d_law_771 rfl ?_
  refine a_callFI (pc1 := 775) (As := [.int (xs ((nI i) + (nI 1)).toNatClampNeg)]) (rest := []) (b := a 0) C hK 1 (frC a b cs μ ν μ1 hAa) (c_T_chance l D cs a μ (xs ((nI i) + (nI 1)).toNatClampNeg) r μ1 h1) s_T_chance kl_36 0 rfl rfl rfl ⟨Nat.le_of_ble_eq_true rfl, Nat.le_of_ble_eq_true rfl⟩ ⟨rfl, rfl⟩ ⟨Nat.le_of_ble_eq_true rfl, Nat.le_of_ble_eq_true rfl⟩ d_law_772 rfl rfl (Nat.le_of_ble_eq_true rfl) ?_
  refine a_aload_n (pc1 := 776) C d_law_775 rfl rfl 1 rfl ?_
  refine a_aload_n (pc1 := 777) C d_law_776 rfl rfl 3 rfl ?_
  refine a_iload_n (pc1 := 778) C d_law_777 rfl rfl 0 rfl ?_
  refine a_iconst (pc1 := 779) (v := (nI 1)) C d_law_778 rfl (by decide) ?_
  refine a_iadd (pc1 := 780) C d_law_779 rfl ?_
  refine a_sld (pc1 := 781) C hX hbl hbA (law_in (k := 1) (by omega) hLL) d_law_780 rfl ?_
  refine a_callFI (pc1 := 784) (As := [.int (xs ((nI i) + (nI 1)).toNatClampNeg)]) (rest := [.int r]) (b := b 0) C hK 1 (frM a b cs μ1 ν ν1 hAb) (c_M_chance l D cs b ν (xs ((nI i) + (nI 1)).toNatClampNeg) r ν1 h2) s_M_chance kl_37 36 rfl rfl rfl ⟨Nat.le_of_ble_eq_true rfl, Nat.le_of_ble_eq_true rfl⟩ ⟨rfl, rfl⟩ ⟨Nat.le_of_ble_eq_true rfl, Nat.le_of_ble_eq_true rfl⟩ d_law_781 rfl rfl (Nat.le_of_ble_eq_true rfl) ?_
  refine a_icmp_eq (pc1 := 787) C 1243 d_law_784 rfl (by decide) (fun _ => ?_) (fun c3 => absurd rfl c3)
  exact kk μ1 ν1 hR1
theorem kl_38 : Cond.methodLink "TentPegsLaw" 95 y_T_turn ∈ TT := tm 747 (by decide +kernel) (by decide +kernel)
theorem kl_39 : Cond.methodLink "TentPegsLaw" 98 y_M_turn ∈ TT := tm 1208 (by decide +kernel) (by decide +kernel)
set_option maxHeartbeats 4000000 in
set_option maxRecDepth 100000 in
theorem law_19 {p : Program} {l : Launch} {e : Env} {s : State} {m : MethodId} {args : Array Value} {below : List Frame} {meth : Method} {c : Code} {Q : State → Prop} {D : va_G} {A : Nat → Prop} {cs : Nat → ClassId} {a b : Nat → Nat} {adK adV : Nat → Nat} {sb LL : Nat} {xs : Nat → Int32} {Rel : Mem → Mem → Prop} (C : Cx p s m args c code 4 "TentPegsLaw") (hK : va_K D classes (tys cs) s) (hSx : Sx adK adV A s s.heap) (hX : va_X sb LL xs s s.heap) (hbl : sb < s.heap.size) (hbA : ¬ A sb) (hAa : ∀ q, AC a q → A q) (hAb : ∀ q, AM b q → A q) (hOK : RelOK Rel) (hLL : LL ≤ 320) (i : Nat) (hi : i + 5 ≤ LL) (μ ν : Mem) (hR : Rel μ ν) (kk : ∀ μ ν, Rel μ ν → GA p l e room_1 s m args below meth c Q D A 4 47 1521 (WC a cs μ ++ WM b cs ν) 1243 [(3, .int (nI i)), (2, .ref (b 0)), (1, .ref (a 0)), (0, .ref sb)] []) : GA p l e room_1 s m args below meth c Q D A 4 47 1521 (WC a cs μ ++ WM b cs ν) 789 [(3, .int (nI i)), (2, .ref (b 0)), (1, .ref (a 0)), (0, .ref sb)] [] := by
  obtain ⟨r, μ1, ν1, h1, h2, hR1⟩ := hOK.2.2.2.2.2.2.2.2.2.2.2.2.2.2.2.2.2.2.2.1 μ ν hR (xs (nI i + nI 1).toNatClampNeg)
  refine a_aload_n (pc1 := 790) C d_law_789 rfl rfl 2 rfl ?_
  refine a_aload_n (pc1 := 791) C d_law_790 rfl rfl 3 rfl ?_
  refine a_iload_n (pc1 := 792) C d_law_791 rfl rfl 0 rfl ?_
  refine a_iconst (pc1 := 793) (v := (nI 1)) C d_law_792 rfl (by decide) ?_
  refine a_iadd (pc1 := 794) C d_law_793 rfl ?_
  refine a_sld (pc1 := 795) C hX hbl hbA (law_in (k := 1) (by omega) hLL) d_law_794 rfl ?_
  refine a_callFI (pc1 := 798) (As := [.int (xs ((nI i) + (nI 1)).toNatClampNeg)]) (rest := []) (b := a 0) C hK 1 (frC a b cs μ ν μ1 hAa) (c_T_turn l D cs a μ (xs ((nI i) + (nI 1)).toNatClampNeg) r μ1 h1) s_T_turn kl_38 0 rfl rfl rfl ⟨Nat.le_of_ble_eq_true rfl, Nat.le_of_ble_eq_true rfl⟩ ⟨rfl, rfl⟩ ⟨Nat.le_of_ble_eq_true rfl, Nat.le_of_ble_eq_true rfl⟩ d_law_795 rfl rfl (Nat.le_of_ble_eq_true rfl) ?_
  refine a_aload_n (pc1 := 799) C d_law_798 rfl rfl 1 rfl ?_
  refine a_aload_n (pc1 := 800) C d_law_799 rfl rfl 3 rfl ?_
  refine a_iload_n (pc1 := 801) C d_law_800 rfl rfl 0 rfl ?_
  refine a_iconst (pc1 := 802) (v := (nI 1)) C d_law_801 rfl (by decide) ?_
  refine a_iadd (pc1 := 803) C d_law_802 rfl ?_
  refine a_sld (pc1 := 804) C hX hbl hbA (law_in (k := 1) (by omega) hLL) d_law_803 rfl ?_
  refine a_callFI (pc1 := 807) (As := [.int (xs ((nI i) + (nI 1)).toNatClampNeg)]) (rest := [.int r]) (b := b 0) C hK 1 (frM a b cs μ1 ν ν1 hAb) (c_M_turn l D cs b ν (xs ((nI i) + (nI 1)).toNatClampNeg) r ν1 h2) s_M_turn kl_39 36 rfl rfl rfl ⟨Nat.le_of_ble_eq_true rfl, Nat.le_of_ble_eq_true rfl⟩ ⟨rfl, rfl⟩ ⟨Nat.le_of_ble_eq_true rfl, Nat.le_of_ble_eq_true rfl⟩ d_law_804 rfl rfl (Nat.le_of_ble_eq_true rfl) ?_
  refine a_icmp_eq (pc1 := 810) C 1243 d_law_807 rfl (by decide) (fun _ => ?_) (fun c3 => absurd rfl c3)
  exact kk μ1 ν1 hR1
theorem kl_40 : Cond.methodLink "TentPegsLaw" 99 y_T_worth ∈ TT := tm 756 (by decide +kernel) (by decide +kernel)
theorem kl_41 : Cond.methodLink "TentPegsLaw" 102 y_M_worth ∈ TT := tm 1212 (by decide +kernel) (by decide +kernel)
set_option maxHeartbeats 4000000 in
set_option maxRecDepth 100000 in
theorem law_20 {p : Program} {l : Launch} {e : Env} {s : State} {m : MethodId} {args : Array Value} {below : List Frame} {meth : Method} {c : Code} {Q : State → Prop} {D : va_G} {A : Nat → Prop} {cs : Nat → ClassId} {a b : Nat → Nat} {adK adV : Nat → Nat} {sb LL : Nat} {xs : Nat → Int32} {Rel : Mem → Mem → Prop} (C : Cx p s m args c code 4 "TentPegsLaw") (hK : va_K D classes (tys cs) s) (hSx : Sx adK adV A s s.heap) (hX : va_X sb LL xs s s.heap) (hbl : sb < s.heap.size) (hbA : ¬ A sb) (hAa : ∀ q, AC a q → A q) (hAb : ∀ q, AM b q → A q) (hOK : RelOK Rel) (hLL : LL ≤ 320) (i : Nat) (hi : i + 5 ≤ LL) (μ ν : Mem) (hR : Rel μ ν) (kk : ∀ μ ν, Rel μ ν → GA p l e room_1 s m args below meth c Q D A 4 47 1521 (WC a cs μ ++ WM b cs ν) 1243 [(3, .int (nI i)), (2, .ref (b 0)), (1, .ref (a 0)), (0, .ref sb)] []) : GA p l e room_1 s m args below meth c Q D A 4 47 1521 (WC a cs μ ++ WM b cs ν) 812 [(3, .int (nI i)), (2, .ref (b 0)), (1, .ref (a 0)), (0, .ref sb)] [] := by
  obtain ⟨r, μ1, ν1, h1, h2, hR1⟩ := hOK.2.2.2.2.2.2.2.2.2.2.2.2.2.2.2.2.2.2.2.2.1 μ ν hR (xs (nI i + nI 1).toNatClampNeg) (xs (nI i + nI 2).toNatClampNeg)
  refine a_aload_n (pc1 := 813) C d_law_812 rfl rfl 2 rfl ?_
  refine a_aload_n (pc1 := 814) C d_law_813 rfl rfl 3 rfl ?_
  refine a_iload_n (pc1 := 815) C d_law_814 rfl rfl 0 rfl ?_
  refine a_iconst (pc1 := 816) (v := (nI 1)) C d_law_815 rfl (by decide) ?_
  refine a_iadd (pc1 := 817) C d_law_816 rfl ?_
  refine a_sld (pc1 := 818) C hX hbl hbA (law_in (k := 1) (by omega) hLL) d_law_817 rfl ?_
  refine a_aload_n (pc1 := 819) C d_law_818 rfl rfl 3 rfl ?_
  refine a_iload_n (pc1 := 820) C d_law_819 rfl rfl 0 rfl ?_
  refine a_iconst (pc1 := 821) (v := (nI 2)) C d_law_820 rfl (by decide) ?_
  refine a_iadd (pc1 := 822) C d_law_821 rfl ?_
  refine a_sld (pc1 := 823) C hX hbl hbA (law_in (k := 2) (by omega) hLL) d_law_822 rfl ?_
  refine a_callFI (pc1 := 826) (As := [.int (xs ((nI i) + (nI 1)).toNatClampNeg), .int (xs ((nI i) + (nI 2)).toNatClampNeg)]) (rest := []) (b := a 0) C hK 2 (frC a b cs μ ν μ1 hAa) (c_T_worth l D cs a μ (xs ((nI i) + (nI 1)).toNatClampNeg) (xs ((nI i) + (nI 2)).toNatClampNeg) r μ1 h1) s_T_worth kl_40 0 rfl rfl rfl ⟨Nat.le_of_ble_eq_true rfl, Nat.le_of_ble_eq_true rfl⟩ ⟨rfl, rfl⟩ ⟨Nat.le_of_ble_eq_true rfl, Nat.le_of_ble_eq_true rfl⟩ d_law_823 rfl rfl (Nat.le_of_ble_eq_true rfl) ?_
  refine a_aload_n (pc1 := 827) C d_law_826 rfl rfl 1 rfl ?_
  refine a_aload_n (pc1 := 828) C d_law_827 rfl rfl 3 rfl ?_
  refine a_iload_n (pc1 := 829) C d_law_828 rfl rfl 0 rfl ?_
  refine a_iconst (pc1 := 830) (v := (nI 1)) C d_law_829 rfl (by decide) ?_
  refine a_iadd (pc1 := 831) C d_law_830 rfl ?_
  refine a_sld (pc1 := 832) C hX hbl hbA (law_in (k := 1) (by omega) hLL) d_law_831 rfl ?_
  refine a_aload_n (pc1 := 833) C d_law_832 rfl rfl 3 rfl ?_
  refine a_iload_n (pc1 := 834) C d_law_833 rfl rfl 0 rfl ?_
  refine a_iconst (pc1 := 835) (v := (nI 2)) C d_law_834 rfl (by decide) ?_
  refine a_iadd (pc1 := 836) C d_law_835 rfl ?_
  refine a_sld (pc1 := 837) C hX hbl hbA (law_in (k := 2) (by omega) hLL) d_law_836 rfl ?_
  refine a_callFI (pc1 := 840) (As := [.int (xs ((nI i) + (nI 1)).toNatClampNeg), .int (xs ((nI i) + (nI 2)).toNatClampNeg)]) (rest := [.int r]) (b := b 0) C hK 2 (frM a b cs μ1 ν ν1 hAb) (c_M_worth l D cs b ν (xs ((nI i) + (nI 1)).toNatClampNeg) (xs ((nI i) + (nI 2)).toNatClampNeg) r ν1 h2) s_M_worth kl_41 36 rfl rfl rfl ⟨Nat.le_of_ble_eq_true rfl, Nat.le_of_ble_eq_true rfl⟩ ⟨rfl, rfl⟩ ⟨Nat.le_of_ble_eq_true rfl, Nat.le_of_ble_eq_true rfl⟩ d_law_837 rfl rfl (Nat.le_of_ble_eq_true rfl) ?_
  refine a_icmp_eq (pc1 := 843) C 1243 d_law_840 rfl (by decide) (fun _ => ?_) (fun c3 => absurd rfl c3)
  exact kk μ1 ν1 hR1
theorem kl_42 : Cond.methodLink "TentPegsLaw" 103 y_T_setUp ∈ TT := tm 760 (by decide +kernel) (by decide +kernel)
theorem kl_43 : Cond.methodLink "TentPegsLaw" 106 y_M_setUp ∈ TT := tm 1221 (by decide +kernel) (by decide +kernel)
set_option maxHeartbeats 4000000 in
set_option maxRecDepth 100000 in
theorem law_21 {p : Program} {l : Launch} {e : Env} {s : State} {m : MethodId} {args : Array Value} {below : List Frame} {meth : Method} {c : Code} {Q : State → Prop} {D : va_G} {A : Nat → Prop} {cs : Nat → ClassId} {a b : Nat → Nat} {adK adV : Nat → Nat} {sb LL : Nat} {xs : Nat → Int32} {Rel : Mem → Mem → Prop} (C : Cx p s m args c code 4 "TentPegsLaw") (hK : va_K D classes (tys cs) s) (hSx : Sx adK adV A s s.heap) (hX : va_X sb LL xs s s.heap) (hbl : sb < s.heap.size) (hbA : ¬ A sb) (hAa : ∀ q, AC a q → A q) (hAb : ∀ q, AM b q → A q) (hOK : RelOK Rel) (hLL : LL ≤ 320) (i : Nat) (hi : i + 5 ≤ LL) (μ ν : Mem) (hR : Rel μ ν) (kk : ∀ μ ν, Rel μ ν → GA p l e room_1 s m args below meth c Q D A 4 47 1521 (WC a cs μ ++ WM b cs ν) 1243 [(3, .int (nI i)), (2, .ref (b 0)), (1, .ref (a 0)), (0, .ref sb)] []) : GA p l e room_1 s m args below meth c Q D A 4 47 1521 (WC a cs μ ++ WM b cs ν) 845 [(3, .int (nI i)), (2, .ref (b 0)), (1, .ref (a 0)), (0, .ref sb)] [] := by
  obtain ⟨r, μ1, ν1, h1, h2, hR1⟩ := hOK.2.2.2.2.2.2.2.2.2.2.2.2.2.2.2.2.2.2.2.2.2.1 μ ν hR (xs (nI i + nI 1).toNatClampNeg) (xs (nI i + nI 2).toNatClampNeg) (xs (nI i + nI 3).toNatClampNeg) (xs (nI i + nI 4).toNatClampNeg)
  refine a_aload_n (pc1 := 846) C d_law_845 rfl rfl 2 rfl ?_
  refine a_aload_n (pc1 := 847) C d_law_846 rfl rfl 3 rfl ?_
  refine a_iload_n (pc1 := 848) C d_law_847 rfl rfl 0 rfl ?_
  refine a_iconst (pc1 := 849) (v := (nI 1)) C d_law_848 rfl (by decide) ?_
  refine a_iadd (pc1 := 850) C d_law_849 rfl ?_
  refine a_sld (pc1 := 851) C hX hbl hbA (law_in (k := 1) (by omega) hLL) d_law_850 rfl ?_
  refine a_aload_n (pc1 := 852) C d_law_851 rfl rfl 3 rfl ?_
  refine a_iload_n (pc1 := 853) C d_law_852 rfl rfl 0 rfl ?_
  refine a_iconst (pc1 := 854) (v := (nI 2)) C d_law_853 rfl (by decide) ?_
  refine a_iadd (pc1 := 855) C d_law_854 rfl ?_
  refine a_sld (pc1 := 856) C hX hbl hbA (law_in (k := 2) (by omega) hLL) d_law_855 rfl ?_
  refine a_aload_n (pc1 := 857) C d_law_856 rfl rfl 3 rfl ?_
  refine a_iload_n (pc1 := 858) C d_law_857 rfl rfl 0 rfl ?_
  refine a_iconst (pc1 := 859) (v := (nI 3)) C d_law_858 rfl (by decide) ?_
  refine a_iadd (pc1 := 860) C d_law_859 rfl ?_
  refine a_sld (pc1 := 861) C hX hbl hbA (law_in (k := 3) (by omega) hLL) d_law_860 rfl ?_
  refine a_aload_n (pc1 := 862) C d_law_861 rfl rfl 3 rfl ?_
  refine a_iload_n (pc1 := 863) C d_law_862 rfl rfl 0 rfl ?_
  refine a_iconst (pc1 := 864) (v := (nI 4)) C d_law_863 rfl (by decide) ?_
  refine a_iadd (pc1 := 865) C d_law_864 rfl ?_
  refine a_sld (pc1 := 866) C hX hbl hbA (law_in (k := 4) (by omega) hLL) d_law_865 rfl ?_
  refine a_callFI (pc1 := 869) (As := [.int (xs ((nI i) + (nI 1)).toNatClampNeg), .int (xs ((nI i) + (nI 2)).toNatClampNeg), .int (xs ((nI i) + (nI 3)).toNatClampNeg), .int (xs ((nI i) + (nI 4)).toNatClampNeg)]) (rest := []) (b := a 0) C hK 4 (frC a b cs μ ν μ1 hAa) (c_T_setUp l D cs a μ (xs ((nI i) + (nI 1)).toNatClampNeg) (xs ((nI i) + (nI 2)).toNatClampNeg) (xs ((nI i) + (nI 3)).toNatClampNeg) (xs ((nI i) + (nI 4)).toNatClampNeg) r μ1 h1) s_T_setUp kl_42 0 rfl rfl rfl ⟨Nat.le_of_ble_eq_true rfl, Nat.le_of_ble_eq_true rfl⟩ ⟨rfl, rfl⟩ ⟨Nat.le_of_ble_eq_true rfl, Nat.le_of_ble_eq_true rfl⟩ d_law_866 rfl rfl (Nat.le_of_ble_eq_true rfl) ?_
  refine a_aload_n (pc1 := 870) C d_law_869 rfl rfl 1 rfl ?_
  refine a_aload_n (pc1 := 871) C d_law_870 rfl rfl 3 rfl ?_
  refine a_iload_n (pc1 := 872) C d_law_871 rfl rfl 0 rfl ?_
  refine a_iconst (pc1 := 873) (v := (nI 1)) C d_law_872 rfl (by decide) ?_
  refine a_iadd (pc1 := 874) C d_law_873 rfl ?_
  refine a_sld (pc1 := 875) C hX hbl hbA (law_in (k := 1) (by omega) hLL) d_law_874 rfl ?_
  refine a_aload_n (pc1 := 876) C d_law_875 rfl rfl 3 rfl ?_
  refine a_iload_n (pc1 := 877) C d_law_876 rfl rfl 0 rfl ?_
  refine a_iconst (pc1 := 878) (v := (nI 2)) C d_law_877 rfl (by decide) ?_
  refine a_iadd (pc1 := 879) C d_law_878 rfl ?_
  refine a_sld (pc1 := 880) C hX hbl hbA (law_in (k := 2) (by omega) hLL) d_law_879 rfl ?_
  refine a_aload_n (pc1 := 881) C d_law_880 rfl rfl 3 rfl ?_
  refine a_iload_n (pc1 := 882) C d_law_881 rfl rfl 0 rfl ?_
  refine a_iconst (pc1 := 883) (v := (nI 3)) C d_law_882 rfl (by decide) ?_
  refine a_iadd (pc1 := 884) C d_law_883 rfl ?_
  refine a_sld (pc1 := 885) C hX hbl hbA (law_in (k := 3) (by omega) hLL) d_law_884 rfl ?_
  refine a_aload_n (pc1 := 886) C d_law_885 rfl rfl 3 rfl ?_
  refine a_iload_n (pc1 := 887) C d_law_886 rfl rfl 0 rfl ?_
  refine a_iconst (pc1 := 888) (v := (nI 4)) C d_law_887 rfl (by decide) ?_
  refine a_iadd (pc1 := 889) C d_law_888 rfl ?_
  refine a_sld (pc1 := 890) C hX hbl hbA (law_in (k := 4) (by omega) hLL) d_law_889 rfl ?_
  refine a_callFI (pc1 := 893) (As := [.int (xs ((nI i) + (nI 1)).toNatClampNeg), .int (xs ((nI i) + (nI 2)).toNatClampNeg), .int (xs ((nI i) + (nI 3)).toNatClampNeg), .int (xs ((nI i) + (nI 4)).toNatClampNeg)]) (rest := [.int r]) (b := b 0) C hK 4 (frM a b cs μ1 ν ν1 hAb) (c_M_setUp l D cs b ν (xs ((nI i) + (nI 1)).toNatClampNeg) (xs ((nI i) + (nI 2)).toNatClampNeg) (xs ((nI i) + (nI 3)).toNatClampNeg) (xs ((nI i) + (nI 4)).toNatClampNeg) r ν1 h2) s_M_setUp kl_43 36 rfl rfl rfl ⟨Nat.le_of_ble_eq_true rfl, Nat.le_of_ble_eq_true rfl⟩ ⟨rfl, rfl⟩ ⟨Nat.le_of_ble_eq_true rfl, Nat.le_of_ble_eq_true rfl⟩ d_law_890 rfl rfl (Nat.le_of_ble_eq_true rfl) ?_
  refine a_icmp_eq (pc1 := 896) C 1243 d_law_893 rfl (by decide) (fun _ => ?_) (fun c3 => absurd rfl c3)
  exact kk μ1 ν1 hR1
theorem kl_44 : Cond.methodLink "TentPegsLaw" 107 y_T_morning ∈ TT := tm 785 (by decide +kernel) (by decide +kernel)
theorem kl_45 : Cond.methodLink "TentPegsLaw" 110 y_M_morning ∈ TT := tm 1230 (by decide +kernel) (by decide +kernel)
set_option maxHeartbeats 4000000 in
set_option maxRecDepth 100000 in
theorem law_22 {p : Program} {l : Launch} {e : Env} {s : State} {m : MethodId} {args : Array Value} {below : List Frame} {meth : Method} {c : Code} {Q : State → Prop} {D : va_G} {A : Nat → Prop} {cs : Nat → ClassId} {a b : Nat → Nat} {adK adV : Nat → Nat} {sb LL : Nat} {xs : Nat → Int32} {Rel : Mem → Mem → Prop} (C : Cx p s m args c code 4 "TentPegsLaw") (hK : va_K D classes (tys cs) s) (hSx : Sx adK adV A s s.heap) (hX : va_X sb LL xs s s.heap) (hbl : sb < s.heap.size) (hbA : ¬ A sb) (hAa : ∀ q, AC a q → A q) (hAb : ∀ q, AM b q → A q) (hOK : RelOK Rel) (hLL : LL ≤ 320) (i : Nat) (hi : i + 5 ≤ LL) (μ ν : Mem) (hR : Rel μ ν) (kk : ∀ μ ν, Rel μ ν → GA p l e room_1 s m args below meth c Q D A 4 47 1521 (WC a cs μ ++ WM b cs ν) 1243 [(3, .int (nI i)), (2, .ref (b 0)), (1, .ref (a 0)), (0, .ref sb)] []) : GA p l e room_1 s m args below meth c Q D A 4 47 1521 (WC a cs μ ++ WM b cs ν) 898 [(3, .int (nI i)), (2, .ref (b 0)), (1, .ref (a 0)), (0, .ref sb)] [] := by
  obtain ⟨r, μ1, ν1, h1, h2, hR1⟩ := hOK.2.2.2.2.2.2.2.2.2.2.2.2.2.2.2.2.2.2.2.2.2.2.1 μ ν hR (xs (nI i + nI 1).toNatClampNeg) (xs (nI i + nI 2).toNatClampNeg)
  refine a_aload_n (pc1 := 899) C d_law_898 rfl rfl 2 rfl ?_
  refine a_aload_n (pc1 := 900) C d_law_899 rfl rfl 3 rfl ?_
  refine a_iload_n (pc1 := 901) C d_law_900 rfl rfl 0 rfl ?_
  refine a_iconst (pc1 := 902) (v := (nI 1)) C d_law_901 rfl (by decide) ?_
  refine a_iadd (pc1 := 903) C d_law_902 rfl ?_
  refine a_sld (pc1 := 904) C hX hbl hbA (law_in (k := 1) (by omega) hLL) d_law_903 rfl ?_
  refine a_aload_n (pc1 := 905) C d_law_904 rfl rfl 3 rfl ?_
  refine a_iload_n (pc1 := 906) C d_law_905 rfl rfl 0 rfl ?_
  refine a_iconst (pc1 := 907) (v := (nI 2)) C d_law_906 rfl (by decide) ?_
  refine a_iadd (pc1 := 908) C d_law_907 rfl ?_
  refine a_sld (pc1 := 909) C hX hbl hbA (law_in (k := 2) (by omega) hLL) d_law_908 rfl ?_
  refine a_callFI (pc1 := 912) (As := [.int (xs ((nI i) + (nI 1)).toNatClampNeg), .int (xs ((nI i) + (nI 2)).toNatClampNeg)]) (rest := []) (b := a 0) C hK 2 (frC a b cs μ ν μ1 hAa) (c_T_morning l D cs a μ (xs ((nI i) + (nI 1)).toNatClampNeg) (xs ((nI i) + (nI 2)).toNatClampNeg) r μ1 h1) s_T_morning kl_44 0 rfl rfl rfl ⟨Nat.le_of_ble_eq_true rfl, Nat.le_of_ble_eq_true rfl⟩ ⟨rfl, rfl⟩ ⟨Nat.le_of_ble_eq_true rfl, Nat.le_of_ble_eq_true rfl⟩ d_law_909 rfl rfl (Nat.le_of_ble_eq_true rfl) ?_
  refine a_aload_n (pc1 := 913) C d_law_912 rfl rfl 1 rfl ?_
  refine a_aload_n (pc1 := 914) C d_law_913 rfl rfl 3 rfl ?_
  refine a_iload_n (pc1 := 915) C d_law_914 rfl rfl 0 rfl ?_
  refine a_iconst (pc1 := 916) (v := (nI 1)) C d_law_915 rfl (by decide) ?_
  refine a_iadd (pc1 := 917) C d_law_916 rfl ?_
  refine a_sld (pc1 := 918) C hX hbl hbA (law_in (k := 1) (by omega) hLL) d_law_917 rfl ?_
  refine a_aload_n (pc1 := 919) C d_law_918 rfl rfl 3 rfl ?_
  refine a_iload_n (pc1 := 920) C d_law_919 rfl rfl 0 rfl ?_
  refine a_iconst (pc1 := 921) (v := (nI 2)) C d_law_920 rfl (by decide) ?_
  refine a_iadd (pc1 := 922) C d_law_921 rfl ?_
  refine a_sld (pc1 := 923) C hX hbl hbA (law_in (k := 2) (by omega) hLL) d_law_922 rfl ?_
  refine a_callFI (pc1 := 926) (As := [.int (xs ((nI i) + (nI 1)).toNatClampNeg), .int (xs ((nI i) + (nI 2)).toNatClampNeg)]) (rest := [.int r]) (b := b 0) C hK 2 (frM a b cs μ1 ν ν1 hAb) (c_M_morning l D cs b ν (xs ((nI i) + (nI 1)).toNatClampNeg) (xs ((nI i) + (nI 2)).toNatClampNeg) r ν1 h2) s_M_morning kl_45 36 rfl rfl rfl ⟨Nat.le_of_ble_eq_true rfl, Nat.le_of_ble_eq_true rfl⟩ ⟨rfl, rfl⟩ ⟨Nat.le_of_ble_eq_true rfl, Nat.le_of_ble_eq_true rfl⟩ d_law_923 rfl rfl (Nat.le_of_ble_eq_true rfl) ?_
  refine a_icmp_eq (pc1 := 929) C 1243 d_law_926 rfl (by decide) (fun _ => ?_) (fun c3 => absurd rfl c3)
  exact kk μ1 ν1 hR1
theorem kl_46 : Cond.methodLink "TentPegsLaw" 111 y_T_lent ∈ TT := tm 794 (by decide +kernel) (by decide +kernel)
theorem kl_47 : Cond.methodLink "TentPegsLaw" 114 y_M_lent ∈ TT := tm 1234 (by decide +kernel) (by decide +kernel)
set_option maxHeartbeats 4000000 in
set_option maxRecDepth 100000 in
theorem law_23 {p : Program} {l : Launch} {e : Env} {s : State} {m : MethodId} {args : Array Value} {below : List Frame} {meth : Method} {c : Code} {Q : State → Prop} {D : va_G} {A : Nat → Prop} {cs : Nat → ClassId} {a b : Nat → Nat} {adK adV : Nat → Nat} {sb LL : Nat} {xs : Nat → Int32} {Rel : Mem → Mem → Prop} (C : Cx p s m args c code 4 "TentPegsLaw") (hK : va_K D classes (tys cs) s) (hSx : Sx adK adV A s s.heap) (hX : va_X sb LL xs s s.heap) (hbl : sb < s.heap.size) (hbA : ¬ A sb) (hAa : ∀ q, AC a q → A q) (hAb : ∀ q, AM b q → A q) (hOK : RelOK Rel) (hLL : LL ≤ 320) (i : Nat) (hi : i + 5 ≤ LL) (μ ν : Mem) (hR : Rel μ ν) (kk : ∀ μ ν, Rel μ ν → GA p l e room_1 s m args below meth c Q D A 4 47 1521 (WC a cs μ ++ WM b cs ν) 1243 [(3, .int (nI i)), (2, .ref (b 0)), (1, .ref (a 0)), (0, .ref sb)] []) : GA p l e room_1 s m args below meth c Q D A 4 47 1521 (WC a cs μ ++ WM b cs ν) 931 [(3, .int (nI i)), (2, .ref (b 0)), (1, .ref (a 0)), (0, .ref sb)] [] := by
  obtain ⟨r, μ1, ν1, h1, h2, hR1⟩ := hOK.2.2.2.2.2.2.2.2.2.2.2.2.2.2.2.2.2.2.2.2.2.2.2.1 μ ν hR (xs (nI i + nI 1).toNatClampNeg) (xs (nI i + nI 2).toNatClampNeg) (xs (nI i + nI 3).toNatClampNeg)
  refine a_aload_n (pc1 := 932) C d_law_931 rfl rfl 2 rfl ?_
  refine a_aload_n (pc1 := 933) C d_law_932 rfl rfl 3 rfl ?_
  refine a_iload_n (pc1 := 934) C d_law_933 rfl rfl 0 rfl ?_
  refine a_iconst (pc1 := 935) (v := (nI 1)) C d_law_934 rfl (by decide) ?_
  refine a_iadd (pc1 := 936) C d_law_935 rfl ?_
  refine a_sld (pc1 := 937) C hX hbl hbA (law_in (k := 1) (by omega) hLL) d_law_936 rfl ?_
  refine a_aload_n (pc1 := 938) C d_law_937 rfl rfl 3 rfl ?_
  refine a_iload_n (pc1 := 939) C d_law_938 rfl rfl 0 rfl ?_
  refine a_iconst (pc1 := 940) (v := (nI 2)) C d_law_939 rfl (by decide) ?_
  refine a_iadd (pc1 := 941) C d_law_940 rfl ?_
  refine a_sld (pc1 := 942) C hX hbl hbA (law_in (k := 2) (by omega) hLL) d_law_941 rfl ?_
  refine a_aload_n (pc1 := 943) C d_law_942 rfl rfl 3 rfl ?_
  refine a_iload_n (pc1 := 944) C d_law_943 rfl rfl 0 rfl ?_
  refine a_iconst (pc1 := 945) (v := (nI 3)) C d_law_944 rfl (by decide) ?_
  refine a_iadd (pc1 := 946) C d_law_945 rfl ?_
  refine a_sld (pc1 := 947) C hX hbl hbA (law_in (k := 3) (by omega) hLL) d_law_946 rfl ?_
  refine a_callFI (pc1 := 950) (As := [.int (xs ((nI i) + (nI 1)).toNatClampNeg), .int (xs ((nI i) + (nI 2)).toNatClampNeg), .int (xs ((nI i) + (nI 3)).toNatClampNeg)]) (rest := []) (b := a 0) C hK 3 (frC a b cs μ ν μ1 hAa) (c_T_lent l D cs a μ (xs ((nI i) + (nI 1)).toNatClampNeg) (xs ((nI i) + (nI 2)).toNatClampNeg) (xs ((nI i) + (nI 3)).toNatClampNeg) r μ1 h1) s_T_lent kl_46 0 rfl rfl rfl ⟨Nat.le_of_ble_eq_true rfl, Nat.le_of_ble_eq_true rfl⟩ ⟨rfl, rfl⟩ ⟨Nat.le_of_ble_eq_true rfl, Nat.le_of_ble_eq_true rfl⟩ d_law_947 rfl rfl (Nat.le_of_ble_eq_true rfl) ?_
  refine a_aload_n (pc1 := 951) C d_law_950 rfl rfl 1 rfl ?_
  refine a_aload_n (pc1 := 952) C d_law_951 rfl rfl 3 rfl ?_
  refine a_iload_n (pc1 := 953) C d_law_952 rfl rfl 0 rfl ?_
  refine a_iconst (pc1 := 954) (v := (nI 1)) C d_law_953 rfl (by decide) ?_
  refine a_iadd (pc1 := 955) C d_law_954 rfl ?_
  refine a_sld (pc1 := 956) C hX hbl hbA (law_in (k := 1) (by omega) hLL) d_law_955 rfl ?_
  refine a_aload_n (pc1 := 957) C d_law_956 rfl rfl 3 rfl ?_
  refine a_iload_n (pc1 := 958) C d_law_957 rfl rfl 0 rfl ?_
  refine a_iconst (pc1 := 959) (v := (nI 2)) C d_law_958 rfl (by decide) ?_
  refine a_iadd (pc1 := 960) C d_law_959 rfl ?_
  refine a_sld (pc1 := 961) C hX hbl hbA (law_in (k := 2) (by omega) hLL) d_law_960 rfl ?_
  refine a_aload_n (pc1 := 962) C d_law_961 rfl rfl 3 rfl ?_
  refine a_iload_n (pc1 := 963) C d_law_962 rfl rfl 0 rfl ?_
  refine a_iconst (pc1 := 964) (v := (nI 3)) C d_law_963 rfl (by decide) ?_
  refine a_iadd (pc1 := 965) C d_law_964 rfl ?_
  refine a_sld (pc1 := 966) C hX hbl hbA (law_in (k := 3) (by omega) hLL) d_law_965 rfl ?_
  refine a_callFI (pc1 := 969) (As := [.int (xs ((nI i) + (nI 1)).toNatClampNeg), .int (xs ((nI i) + (nI 2)).toNatClampNeg), .int (xs ((nI i) + (nI 3)).toNatClampNeg)]) (rest := [.int r]) (b := b 0) C hK 3 (frM a b cs μ1 ν ν1 hAb) (c_M_lent l D cs b ν (xs ((nI i) + (nI 1)).toNatClampNeg) (xs ((nI i) + (nI 2)).toNatClampNeg) (xs ((nI i) + (nI 3)).toNatClampNeg) r ν1 h2) s_M_lent kl_47 36 rfl rfl rfl ⟨Nat.le_of_ble_eq_true rfl, Nat.le_of_ble_eq_true rfl⟩ ⟨rfl, rfl⟩ ⟨Nat.le_of_ble_eq_true rfl, Nat.le_of_ble_eq_true rfl⟩ d_law_966 rfl rfl (Nat.le_of_ble_eq_true rfl) ?_
  refine a_icmp_eq (pc1 := 972) C 1243 d_law_969 rfl (by decide) (fun _ => ?_) (fun c3 => absurd rfl c3)
  exact kk μ1 ν1 hR1
theorem kl_48 : Cond.methodLink "TentPegsLaw" 115 y_T_pence ∈ TT := tm 818 (by decide +kernel) (by decide +kernel)
theorem kl_49 : Cond.methodLink "TentPegsLaw" 118 y_M_pence ∈ TT := tm 1242 (by decide +kernel) (by decide +kernel)
set_option maxHeartbeats 4000000 in
set_option maxRecDepth 100000 in
theorem law_24 {p : Program} {l : Launch} {e : Env} {s : State} {m : MethodId} {args : Array Value} {below : List Frame} {meth : Method} {c : Code} {Q : State → Prop} {D : va_G} {A : Nat → Prop} {cs : Nat → ClassId} {a b : Nat → Nat} {adK adV : Nat → Nat} {sb LL : Nat} {xs : Nat → Int32} {Rel : Mem → Mem → Prop} (C : Cx p s m args c code 4 "TentPegsLaw") (hK : va_K D classes (tys cs) s) (hSx : Sx adK adV A s s.heap) (hX : va_X sb LL xs s s.heap) (hbl : sb < s.heap.size) (hbA : ¬ A sb) (hAa : ∀ q, AC a q → A q) (hAb : ∀ q, AM b q → A q) (hOK : RelOK Rel) (hLL : LL ≤ 320) (i : Nat) (hi : i + 5 ≤ LL) (μ ν : Mem) (hR : Rel μ ν) (kk : ∀ μ ν, Rel μ ν → GA p l e room_1 s m args below meth c Q D A 4 47 1521 (WC a cs μ ++ WM b cs ν) 1243 [(3, .int (nI i)), (2, .ref (b 0)), (1, .ref (a 0)), (0, .ref sb)] []) : GA p l e room_1 s m args below meth c Q D A 4 47 1521 (WC a cs μ ++ WM b cs ν) 974 [(3, .int (nI i)), (2, .ref (b 0)), (1, .ref (a 0)), (0, .ref sb)] [] := by
  obtain ⟨r, μ1, ν1, h1, h2, hR1⟩ := hOK.2.2.2.2.2.2.2.2.2.2.2.2.2.2.2.2.2.2.2.2.2.2.2.2.1 μ ν hR (xs (nI i + nI 1).toNatClampNeg) (xs (nI i + nI 2).toNatClampNeg) (xs (nI i + nI 3).toNatClampNeg)
  refine a_aload_n (pc1 := 975) C d_law_974 rfl rfl 2 rfl ?_
  refine a_aload_n (pc1 := 976) C d_law_975 rfl rfl 3 rfl ?_
  refine a_iload_n (pc1 := 977) C d_law_976 rfl rfl 0 rfl ?_
  refine a_iconst (pc1 := 978) (v := (nI 1)) C d_law_977 rfl (by decide) ?_
  refine a_iadd (pc1 := 979) C d_law_978 rfl ?_
  refine a_sld (pc1 := 980) C hX hbl hbA (law_in (k := 1) (by omega) hLL) d_law_979 rfl ?_
  refine a_aload_n (pc1 := 981) C d_law_980 rfl rfl 3 rfl ?_
  refine a_iload_n (pc1 := 982) C d_law_981 rfl rfl 0 rfl ?_
  refine a_iconst (pc1 := 983) (v := (nI 2)) C d_law_982 rfl (by decide) ?_
  refine a_iadd (pc1 := 984) C d_law_983 rfl ?_
  refine a_sld (pc1 := 985) C hX hbl hbA (law_in (k := 2) (by omega) hLL) d_law_984 rfl ?_
  refine a_aload_n (pc1 := 986) C d_law_985 rfl rfl 3 rfl ?_
  refine a_iload_n (pc1 := 987) C d_law_986 rfl rfl 0 rfl ?_
  refine a_iconst (pc1 := 988) (v := (nI 3)) C d_law_987 rfl (by decide) ?_
  refine a_iadd (pc1 := 989) C d_law_988 rfl ?_
  refine a_sld (pc1 := 990) C hX hbl hbA (law_in (k := 3) (by omega) hLL) d_law_989 rfl ?_
  refine a_callFI (pc1 := 993) (As := [.int (xs ((nI i) + (nI 1)).toNatClampNeg), .int (xs ((nI i) + (nI 2)).toNatClampNeg), .int (xs ((nI i) + (nI 3)).toNatClampNeg)]) (rest := []) (b := a 0) C hK 3 (frC a b cs μ ν μ1 hAa) (c_T_pence l D cs a μ (xs ((nI i) + (nI 1)).toNatClampNeg) (xs ((nI i) + (nI 2)).toNatClampNeg) (xs ((nI i) + (nI 3)).toNatClampNeg) r μ1 h1) s_T_pence kl_48 0 rfl rfl rfl ⟨Nat.le_of_ble_eq_true rfl, Nat.le_of_ble_eq_true rfl⟩ ⟨rfl, rfl⟩ ⟨Nat.le_of_ble_eq_true rfl, Nat.le_of_ble_eq_true rfl⟩ d_law_990 rfl rfl (Nat.le_of_ble_eq_true rfl) ?_
  refine a_aload_n (pc1 := 994) C d_law_993 rfl rfl 1 rfl ?_
  refine a_aload_n (pc1 := 995) C d_law_994 rfl rfl 3 rfl ?_
  refine a_iload_n (pc1 := 996) C d_law_995 rfl rfl 0 rfl ?_
  refine a_iconst (pc1 := 997) (v := (nI 1)) C d_law_996 rfl (by decide) ?_
  refine a_iadd (pc1 := 998) C d_law_997 rfl ?_
  refine a_sld (pc1 := 999) C hX hbl hbA (law_in (k := 1) (by omega) hLL) d_law_998 rfl ?_
  refine a_aload_n (pc1 := 1000) C d_law_999 rfl rfl 3 rfl ?_
  refine a_iload_n (pc1 := 1001) C d_law_1000 rfl rfl 0 rfl ?_
  refine a_iconst (pc1 := 1002) (v := (nI 2)) C d_law_1001 rfl (by decide) ?_
  refine a_iadd (pc1 := 1003) C d_law_1002 rfl ?_
  refine a_sld (pc1 := 1004) C hX hbl hbA (law_in (k := 2) (by omega) hLL) d_law_1003 rfl ?_
  refine a_aload_n (pc1 := 1005) C d_law_1004 rfl rfl 3 rfl ?_
  refine a_iload_n (pc1 := 1006) C d_law_1005 rfl rfl 0 rfl ?_
  refine a_iconst (pc1 := 1007) (v := (nI 3)) C d_law_1006 rfl (by decide) ?_
  refine a_iadd (pc1 := 1008) C d_law_1007 rfl ?_
  refine a_sld (pc1 := 1009) C hX hbl hbA (law_in (k := 3) (by omega) hLL) d_law_1008 rfl ?_
  refine a_callFI (pc1 := 1012) (As := [.int (xs ((nI i) + (nI 1)).toNatClampNeg), .int (xs ((nI i) + (nI 2)).toNatClampNeg), .int (xs ((nI i) + (nI 3)).toNatClampNeg)]) (rest := [.int r]) (b := b 0) C hK 3 (frM a b cs μ1 ν ν1 hAb) (c_M_pence l D cs b ν (xs ((nI i) + (nI 1)).toNatClampNeg) (xs ((nI i) + (nI 2)).toNatClampNeg) (xs ((nI i) + (nI 3)).toNatClampNeg) r ν1 h2) s_M_pence kl_49 36 rfl rfl rfl ⟨Nat.le_of_ble_eq_true rfl, Nat.le_of_ble_eq_true rfl⟩ ⟨rfl, rfl⟩ ⟨Nat.le_of_ble_eq_true rfl, Nat.le_of_ble_eq_true rfl⟩ d_law_1009 rfl rfl (Nat.le_of_ble_eq_true rfl) ?_
  refine a_icmp_eq (pc1 := 1015) C 1243 d_law_1012 rfl (by decide) (fun _ => ?_) (fun c3 => absurd rfl c3)
  exact kk μ1 ν1 hR1
theorem kl_50 : Cond.methodLink "TentPegsLaw" 119 y_T_night ∈ TT := tm 827 (by decide +kernel) (by decide +kernel)
theorem kl_51 : Cond.methodLink "TentPegsLaw" 122 y_M_night ∈ TT := tm 1246 (by decide +kernel) (by decide +kernel)
set_option maxHeartbeats 4000000 in
set_option maxRecDepth 100000 in
theorem law_25 {p : Program} {l : Launch} {e : Env} {s : State} {m : MethodId} {args : Array Value} {below : List Frame} {meth : Method} {c : Code} {Q : State → Prop} {D : va_G} {A : Nat → Prop} {cs : Nat → ClassId} {a b : Nat → Nat} {adK adV : Nat → Nat} {sb LL : Nat} {xs : Nat → Int32} {Rel : Mem → Mem → Prop} (C : Cx p s m args c code 4 "TentPegsLaw") (hK : va_K D classes (tys cs) s) (hSx : Sx adK adV A s s.heap) (hX : va_X sb LL xs s s.heap) (hbl : sb < s.heap.size) (hbA : ¬ A sb) (hAa : ∀ q, AC a q → A q) (hAb : ∀ q, AM b q → A q) (hOK : RelOK Rel) (hLL : LL ≤ 320) (i : Nat) (hi : i + 5 ≤ LL) (μ ν : Mem) (hR : Rel μ ν) (kk : ∀ μ ν, Rel μ ν → GA p l e room_1 s m args below meth c Q D A 4 47 1521 (WC a cs μ ++ WM b cs ν) 1243 [(3, .int (nI i)), (2, .ref (b 0)), (1, .ref (a 0)), (0, .ref sb)] []) : GA p l e room_1 s m args below meth c Q D A 4 47 1521 (WC a cs μ ++ WM b cs ν) 1017 [(3, .int (nI i)), (2, .ref (b 0)), (1, .ref (a 0)), (0, .ref sb)] [] := by
  obtain ⟨r, μ1, ν1, h1, h2, hR1⟩ := hOK.2.2.2.2.2.2.2.2.2.2.2.2.2.2.2.2.2.2.2.2.2.2.2.2.2.1 μ ν hR (xs (nI i + nI 1).toNatClampNeg) (xs (nI i + nI 2).toNatClampNeg) (xs (nI i + nI 3).toNatClampNeg) (xs (nI i + nI 4).toNatClampNeg)
  refine a_aload_n (pc1 := 1018) C d_law_1017 rfl rfl 2 rfl ?_
  refine a_aload_n (pc1 := 1019) C d_law_1018 rfl rfl 3 rfl ?_
  refine a_iload_n (pc1 := 1020) C d_law_1019 rfl rfl 0 rfl ?_
  refine a_iconst (pc1 := 1021) (v := (nI 1)) C d_law_1020 rfl (by decide) ?_
  refine a_iadd (pc1 := 1022) C d_law_1021 rfl ?_
  refine a_sld (pc1 := 1023) C hX hbl hbA (law_in (k := 1) (by omega) hLL) d_law_1022 rfl ?_
  refine a_aload_n (pc1 := 1024) C d_law_1023 rfl rfl 3 rfl ?_
  refine a_iload_n (pc1 := 1025) C d_law_1024 rfl rfl 0 rfl ?_
  refine a_iconst (pc1 := 1026) (v := (nI 2)) C d_law_1025 rfl (by decide) ?_
  refine a_iadd (pc1 := 1027) C d_law_1026 rfl ?_
  refine a_sld (pc1 := 1028) C hX hbl hbA (law_in (k := 2) (by omega) hLL) d_law_1027 rfl ?_
  refine a_aload_n (pc1 := 1029) C d_law_1028 rfl rfl 3 rfl ?_
  refine a_iload_n (pc1 := 1030) C d_law_1029 rfl rfl 0 rfl ?_
  refine a_iconst (pc1 := 1031) (v := (nI 3)) C d_law_1030 rfl (by decide) ?_
  refine a_iadd (pc1 := 1032) C d_law_1031 rfl ?_
  refine a_sld (pc1 := 1033) C hX hbl hbA (law_in (k := 3) (by omega) hLL) d_law_1032 rfl ?_
  refine a_aload_n (pc1 := 1034) C d_law_1033 rfl rfl 3 rfl ?_
  refine a_iload_n (pc1 := 1035) C d_law_1034 rfl rfl 0 rfl ?_
  refine a_iconst (pc1 := 1036) (v := (nI 4)) C d_law_1035 rfl (by decide) ?_
  refine a_iadd (pc1 := 1037) C d_law_1036 rfl ?_
  refine a_sld (pc1 := 1038) C hX hbl hbA (law_in (k := 4) (by omega) hLL) d_law_1037 rfl ?_
  refine a_callFI (pc1 := 1041) (As := [.int (xs ((nI i) + (nI 1)).toNatClampNeg), .int (xs ((nI i) + (nI 2)).toNatClampNeg), .int (xs ((nI i) + (nI 3)).toNatClampNeg), .int (xs ((nI i) + (nI 4)).toNatClampNeg)]) (rest := []) (b := a 0) C hK 4 (frC a b cs μ ν μ1 hAa) (c_T_night l D cs a μ (xs ((nI i) + (nI 1)).toNatClampNeg) (xs ((nI i) + (nI 2)).toNatClampNeg) (xs ((nI i) + (nI 3)).toNatClampNeg) (xs ((nI i) + (nI 4)).toNatClampNeg) r μ1 h1) s_T_night kl_50 0 rfl rfl rfl ⟨Nat.le_of_ble_eq_true rfl, Nat.le_of_ble_eq_true rfl⟩ ⟨rfl, rfl⟩ ⟨Nat.le_of_ble_eq_true rfl, Nat.le_of_ble_eq_true rfl⟩ d_law_1038 rfl rfl (Nat.le_of_ble_eq_true rfl) ?_
  refine a_aload_n (pc1 := 1042) C d_law_1041 rfl rfl 1 rfl ?_
  refine a_aload_n (pc1 := 1043) C d_law_1042 rfl rfl 3 rfl ?_
  refine a_iload_n (pc1 := 1044) C d_law_1043 rfl rfl 0 rfl ?_
  refine a_iconst (pc1 := 1045) (v := (nI 1)) C d_law_1044 rfl (by decide) ?_
  refine a_iadd (pc1 := 1046) C d_law_1045 rfl ?_
  refine a_sld (pc1 := 1047) C hX hbl hbA (law_in (k := 1) (by omega) hLL) d_law_1046 rfl ?_
  refine a_aload_n (pc1 := 1048) C d_law_1047 rfl rfl 3 rfl ?_
  refine a_iload_n (pc1 := 1049) C d_law_1048 rfl rfl 0 rfl ?_
  refine a_iconst (pc1 := 1050) (v := (nI 2)) C d_law_1049 rfl (by decide) ?_
  refine a_iadd (pc1 := 1051) C d_law_1050 rfl ?_
  refine a_sld (pc1 := 1052) C hX hbl hbA (law_in (k := 2) (by omega) hLL) d_law_1051 rfl ?_
  refine a_aload_n (pc1 := 1053) C d_law_1052 rfl rfl 3 rfl ?_
  refine a_iload_n (pc1 := 1054) C d_law_1053 rfl rfl 0 rfl ?_
  refine a_iconst (pc1 := 1055) (v := (nI 3)) C d_law_1054 rfl (by decide) ?_
  refine a_iadd (pc1 := 1056) C d_law_1055 rfl ?_
  refine a_sld (pc1 := 1057) C hX hbl hbA (law_in (k := 3) (by omega) hLL) d_law_1056 rfl ?_
  refine a_aload_n (pc1 := 1058) C d_law_1057 rfl rfl 3 rfl ?_
  refine a_iload_n (pc1 := 1059) C d_law_1058 rfl rfl 0 rfl ?_
  refine a_iconst (pc1 := 1060) (v := (nI 4)) C d_law_1059 rfl (by decide) ?_
  refine a_iadd (pc1 := 1061) C d_law_1060 rfl ?_
  refine a_sld (pc1 := 1062) C hX hbl hbA (law_in (k := 4) (by omega) hLL) d_law_1061 rfl ?_
  refine a_callFI (pc1 := 1065) (As := [.int (xs ((nI i) + (nI 1)).toNatClampNeg), .int (xs ((nI i) + (nI 2)).toNatClampNeg), .int (xs ((nI i) + (nI 3)).toNatClampNeg), .int (xs ((nI i) + (nI 4)).toNatClampNeg)]) (rest := [.int r]) (b := b 0) C hK 4 (frM a b cs μ1 ν ν1 hAb) (c_M_night l D cs b ν (xs ((nI i) + (nI 1)).toNatClampNeg) (xs ((nI i) + (nI 2)).toNatClampNeg) (xs ((nI i) + (nI 3)).toNatClampNeg) (xs ((nI i) + (nI 4)).toNatClampNeg) r ν1 h2) s_M_night kl_51 36 rfl rfl rfl ⟨Nat.le_of_ble_eq_true rfl, Nat.le_of_ble_eq_true rfl⟩ ⟨rfl, rfl⟩ ⟨Nat.le_of_ble_eq_true rfl, Nat.le_of_ble_eq_true rfl⟩ d_law_1062 rfl rfl (Nat.le_of_ble_eq_true rfl) ?_
  refine a_icmp_eq (pc1 := 1068) C 1243 d_law_1065 rfl (by decide) (fun _ => ?_) (fun c3 => absurd rfl c3)
  exact kk μ1 ν1 hR1
theorem kl_52 : Cond.methodLink "TentPegsLaw" 123 y_T_wake ∈ TT := tm 848 (by decide +kernel) (by decide +kernel)
theorem kl_53 : Cond.methodLink "TentPegsLaw" 126 y_M_wake ∈ TT := tm 1266 (by decide +kernel) (by decide +kernel)
set_option maxHeartbeats 4000000 in
set_option maxRecDepth 100000 in
theorem law_26 {p : Program} {l : Launch} {e : Env} {s : State} {m : MethodId} {args : Array Value} {below : List Frame} {meth : Method} {c : Code} {Q : State → Prop} {D : va_G} {A : Nat → Prop} {cs : Nat → ClassId} {a b : Nat → Nat} {adK adV : Nat → Nat} {sb LL : Nat} {xs : Nat → Int32} {Rel : Mem → Mem → Prop} (C : Cx p s m args c code 4 "TentPegsLaw") (hK : va_K D classes (tys cs) s) (hSx : Sx adK adV A s s.heap) (hX : va_X sb LL xs s s.heap) (hbl : sb < s.heap.size) (hbA : ¬ A sb) (hAa : ∀ q, AC a q → A q) (hAb : ∀ q, AM b q → A q) (hOK : RelOK Rel) (hLL : LL ≤ 320) (i : Nat) (hi : i + 5 ≤ LL) (μ ν : Mem) (hR : Rel μ ν) (kk : ∀ μ ν, Rel μ ν → GA p l e room_1 s m args below meth c Q D A 4 47 1521 (WC a cs μ ++ WM b cs ν) 1243 [(3, .int (nI i)), (2, .ref (b 0)), (1, .ref (a 0)), (0, .ref sb)] []) : GA p l e room_1 s m args below meth c Q D A 4 47 1521 (WC a cs μ ++ WM b cs ν) 1070 [(3, .int (nI i)), (2, .ref (b 0)), (1, .ref (a 0)), (0, .ref sb)] [] := by
  obtain ⟨r, μ1, ν1, h1, h2, hR1⟩ := hOK.2.2.2.2.2.2.2.2.2.2.2.2.2.2.2.2.2.2.2.2.2.2.2.2.2.2.1 μ ν hR (xs (nI i + nI 1).toNatClampNeg) (xs (nI i + nI 2).toNatClampNeg) (xs (nI i + nI 3).toNatClampNeg)
  refine a_aload_n (pc1 := 1071) C d_law_1070 rfl rfl 2 rfl ?_
  refine a_aload_n (pc1 := 1072) C d_law_1071 rfl rfl 3 rfl ?_
  refine a_iload_n (pc1 := 1073) C d_law_1072 rfl rfl 0 rfl ?_
  refine a_iconst (pc1 := 1074) (v := (nI 1)) C d_law_1073 rfl (by decide) ?_
  refine a_iadd (pc1 := 1075) C d_law_1074 rfl ?_
  refine a_sld (pc1 := 1076) C hX hbl hbA (law_in (k := 1) (by omega) hLL) d_law_1075 rfl ?_
  refine a_aload_n (pc1 := 1077) C d_law_1076 rfl rfl 3 rfl ?_
  refine a_iload_n (pc1 := 1078) C d_law_1077 rfl rfl 0 rfl ?_
  refine a_iconst (pc1 := 1079) (v := (nI 2)) C d_law_1078 rfl (by decide) ?_
  refine a_iadd (pc1 := 1080) C d_law_1079 rfl ?_
  refine a_sld (pc1 := 1081) C hX hbl hbA (law_in (k := 2) (by omega) hLL) d_law_1080 rfl ?_
  refine a_aload_n (pc1 := 1082) C d_law_1081 rfl rfl 3 rfl ?_
  refine a_iload_n (pc1 := 1083) C d_law_1082 rfl rfl 0 rfl ?_
  refine a_iconst (pc1 := 1084) (v := (nI 3)) C d_law_1083 rfl (by decide) ?_
  refine a_iadd (pc1 := 1085) C d_law_1084 rfl ?_
  refine a_sld (pc1 := 1086) C hX hbl hbA (law_in (k := 3) (by omega) hLL) d_law_1085 rfl ?_
  refine a_callFI (pc1 := 1089) (As := [.int (xs ((nI i) + (nI 1)).toNatClampNeg), .int (xs ((nI i) + (nI 2)).toNatClampNeg), .int (xs ((nI i) + (nI 3)).toNatClampNeg)]) (rest := []) (b := a 0) C hK 3 (frC a b cs μ ν μ1 hAa) (c_T_wake l D cs a μ (xs ((nI i) + (nI 1)).toNatClampNeg) (xs ((nI i) + (nI 2)).toNatClampNeg) (xs ((nI i) + (nI 3)).toNatClampNeg) r μ1 h1) s_T_wake kl_52 0 rfl rfl rfl ⟨Nat.le_of_ble_eq_true rfl, Nat.le_of_ble_eq_true rfl⟩ ⟨rfl, rfl⟩ ⟨Nat.le_of_ble_eq_true rfl, Nat.le_of_ble_eq_true rfl⟩ d_law_1086 rfl rfl (Nat.le_of_ble_eq_true rfl) ?_
  refine a_aload_n (pc1 := 1090) C d_law_1089 rfl rfl 1 rfl ?_
  refine a_aload_n (pc1 := 1091) C d_law_1090 rfl rfl 3 rfl ?_
  refine a_iload_n (pc1 := 1092) C d_law_1091 rfl rfl 0 rfl ?_
  refine a_iconst (pc1 := 1093) (v := (nI 1)) C d_law_1092 rfl (by decide) ?_
  refine a_iadd (pc1 := 1094) C d_law_1093 rfl ?_
  refine a_sld (pc1 := 1095) C hX hbl hbA (law_in (k := 1) (by omega) hLL) d_law_1094 rfl ?_
  refine a_aload_n (pc1 := 1096) C d_law_1095 rfl rfl 3 rfl ?_
  refine a_iload_n (pc1 := 1097) C d_law_1096 rfl rfl 0 rfl ?_
  refine a_iconst (pc1 := 1098) (v := (nI 2)) C d_law_1097 rfl (by decide) ?_
  refine a_iadd (pc1 := 1099) C d_law_1098 rfl ?_
  refine a_sld (pc1 := 1100) C hX hbl hbA (law_in (k := 2) (by omega) hLL) d_law_1099 rfl ?_
  refine a_aload_n (pc1 := 1101) C d_law_1100 rfl rfl 3 rfl ?_
  refine a_iload_n (pc1 := 1102) C d_law_1101 rfl rfl 0 rfl ?_
  refine a_iconst (pc1 := 1103) (v := (nI 3)) C d_law_1102 rfl (by decide) ?_
  refine a_iadd (pc1 := 1104) C d_law_1103 rfl ?_
  refine a_sld (pc1 := 1105) C hX hbl hbA (law_in (k := 3) (by omega) hLL) d_law_1104 rfl ?_
  refine a_callFI (pc1 := 1108) (As := [.int (xs ((nI i) + (nI 1)).toNatClampNeg), .int (xs ((nI i) + (nI 2)).toNatClampNeg), .int (xs ((nI i) + (nI 3)).toNatClampNeg)]) (rest := [.int r]) (b := b 0) C hK 3 (frM a b cs μ1 ν ν1 hAb) (c_M_wake l D cs b ν (xs ((nI i) + (nI 1)).toNatClampNeg) (xs ((nI i) + (nI 2)).toNatClampNeg) (xs ((nI i) + (nI 3)).toNatClampNeg) r ν1 h2) s_M_wake kl_53 36 rfl rfl rfl ⟨Nat.le_of_ble_eq_true rfl, Nat.le_of_ble_eq_true rfl⟩ ⟨rfl, rfl⟩ ⟨Nat.le_of_ble_eq_true rfl, Nat.le_of_ble_eq_true rfl⟩ d_law_1105 rfl rfl (Nat.le_of_ble_eq_true rfl) ?_
  refine a_icmp_eq (pc1 := 1111) C 1243 d_law_1108 rfl (by decide) (fun _ => ?_) (fun c3 => absurd rfl c3)
  exact kk μ1 ν1 hR1
theorem kl_54 : Cond.methodLink "TentPegsLaw" 127 y_T_part ∈ TT := tm 852 (by decide +kernel) (by decide +kernel)
theorem kl_55 : Cond.methodLink "TentPegsLaw" 131 y_M_part ∈ TT := tm 1216 (by decide +kernel) (by decide +kernel)
set_option maxHeartbeats 4000000 in
set_option maxRecDepth 100000 in
theorem law_27 {p : Program} {l : Launch} {e : Env} {s : State} {m : MethodId} {args : Array Value} {below : List Frame} {meth : Method} {c : Code} {Q : State → Prop} {D : va_G} {A : Nat → Prop} {cs : Nat → ClassId} {a b : Nat → Nat} {adK adV : Nat → Nat} {sb LL : Nat} {xs : Nat → Int32} {Rel : Mem → Mem → Prop} (C : Cx p s m args c code 4 "TentPegsLaw") (hK : va_K D classes (tys cs) s) (hSx : Sx adK adV A s s.heap) (hX : va_X sb LL xs s s.heap) (hbl : sb < s.heap.size) (hbA : ¬ A sb) (hAa : ∀ q, AC a q → A q) (hAb : ∀ q, AM b q → A q) (hOK : RelOK Rel) (hLL : LL ≤ 320) (i : Nat) (hi : i + 5 ≤ LL) (μ ν : Mem) (hR : Rel μ ν) (kk : ∀ μ ν, Rel μ ν → GA p l e room_1 s m args below meth c Q D A 4 47 1521 (WC a cs μ ++ WM b cs ν) 1243 [(3, .int (nI i)), (2, .ref (b 0)), (1, .ref (a 0)), (0, .ref sb)] []) : GA p l e room_1 s m args below meth c Q D A 4 47 1521 (WC a cs μ ++ WM b cs ν) 1113 [(3, .int (nI i)), (2, .ref (b 0)), (1, .ref (a 0)), (0, .ref sb)] [] := by
  obtain ⟨r, μ1, ν1, h1, h2, hR1⟩ := hOK.2.2.2.2.2.2.2.2.2.2.2.2.2.2.2.2.2.2.2.2.2.2.2.2.2.2.2.1 μ ν hR (xs (nI i + nI 1).toNatClampNeg)
  refine a_aload_n (pc1 := 1114) C d_law_1113 rfl rfl 2 rfl ?_
  refine a_aload_n (pc1 := 1115) C d_law_1114 rfl rfl 3 rfl ?_
  refine a_iload_n (pc1 := 1116) C d_law_1115 rfl rfl 0 rfl ?_
  refine a_iconst (pc1 := 1117) (v := (nI 1)) C d_law_1116 rfl (by decide) ?_
  refine a_iadd (pc1 := 1118) C d_law_1117 rfl ?_
  refine a_sld (pc1 := 1119) C hX hbl hbA (law_in (k := 1) (by omega) hLL) d_law_1118 rfl ?_
  refine a_callFL (pc1 := 1122) (As := [.int (xs ((nI i) + (nI 1)).toNatClampNeg)]) (rest := []) (b := a 0) C hK 1 (frC a b cs μ ν μ1 hAa) (c_T_part l D cs a μ (xs ((nI i) + (nI 1)).toNatClampNeg) r μ1 h1) s_T_part kl_54 0 rfl rfl rfl ⟨Nat.le_of_ble_eq_true rfl, Nat.le_of_ble_eq_true rfl⟩ ⟨rfl, rfl⟩ ⟨Nat.le_of_ble_eq_true rfl, Nat.le_of_ble_eq_true rfl⟩ d_law_1119 rfl rfl (Nat.le_of_ble_eq_true rfl) ?_
  refine a_aload_n (pc1 := 1123) C d_law_1122 rfl rfl 1 rfl ?_
  refine a_aload_n (pc1 := 1124) C d_law_1123 rfl rfl 3 rfl ?_
  refine a_iload_n (pc1 := 1125) C d_law_1124 rfl rfl 0 rfl ?_
  refine a_iconst (pc1 := 1126) (v := (nI 1)) C d_law_1125 rfl (by decide) ?_
  refine a_iadd (pc1 := 1127) C d_law_1126 rfl ?_
  refine a_sld (pc1 := 1128) C hX hbl hbA (law_in (k := 1) (by omega) hLL) d_law_1127 rfl ?_
  refine a_callFL (pc1 := 1131) (As := [.int (xs ((nI i) + (nI 1)).toNatClampNeg)]) (rest := [.long r]) (b := b 0) C hK 1 (frM a b cs μ1 ν ν1 hAb) (c_M_part l D cs b ν (xs ((nI i) + (nI 1)).toNatClampNeg) r ν1 h2) s_M_part kl_55 36 rfl rfl rfl ⟨Nat.le_of_ble_eq_true rfl, Nat.le_of_ble_eq_true rfl⟩ ⟨rfl, rfl⟩ ⟨Nat.le_of_ble_eq_true rfl, Nat.le_of_ble_eq_true rfl⟩ d_law_1128 rfl rfl (Nat.le_of_ble_eq_true rfl) ?_
  refine a_lcmp (pc1 := 1132) C d_law_1131 rfl ?_
  refine a_if_eq (pc1 := 1135) C 1243 d_law_1132 rfl (by decide) (fun _ => ?_) (fun c3 => absurd (lg_cmp_self r) c3)
  exact kk μ1 ν1 hR1
theorem kl_56 : Cond.methodLink "TentPegsLaw" 132 y_T_image ∈ TT := tm 857 (by decide +kernel) (by decide +kernel)
theorem kl_57 : Cond.methodLink "TentPegsLaw" 135 y_M_image ∈ TT := tm 1270 (by decide +kernel) (by decide +kernel)
set_option maxHeartbeats 4000000 in
set_option maxRecDepth 100000 in
theorem law_28 {p : Program} {l : Launch} {e : Env} {s : State} {m : MethodId} {args : Array Value} {below : List Frame} {meth : Method} {c : Code} {Q : State → Prop} {D : va_G} {A : Nat → Prop} {cs : Nat → ClassId} {a b : Nat → Nat} {adK adV : Nat → Nat} {sb LL : Nat} {xs : Nat → Int32} {Rel : Mem → Mem → Prop} (C : Cx p s m args c code 4 "TentPegsLaw") (hK : va_K D classes (tys cs) s) (hSx : Sx adK adV A s s.heap) (hX : va_X sb LL xs s s.heap) (hbl : sb < s.heap.size) (hbA : ¬ A sb) (hAa : ∀ q, AC a q → A q) (hAb : ∀ q, AM b q → A q) (hOK : RelOK Rel) (hLL : LL ≤ 320) (i : Nat) (hi : i + 5 ≤ LL) (μ ν : Mem) (hR : Rel μ ν) (kk : ∀ μ ν, Rel μ ν → GA p l e room_1 s m args below meth c Q D A 4 47 1521 (WC a cs μ ++ WM b cs ν) 1243 [(3, .int (nI i)), (2, .ref (b 0)), (1, .ref (a 0)), (0, .ref sb)] []) : GA p l e room_1 s m args below meth c Q D A 4 47 1521 (WC a cs μ ++ WM b cs ν) 1137 [(3, .int (nI i)), (2, .ref (b 0)), (1, .ref (a 0)), (0, .ref sb)] [] := by
  obtain ⟨r, μ1, ν1, h1, h2, hR1⟩ := hOK.2.2.2.2.2.2.2.2.2.2.2.2.2.2.2.2.2.2.2.2.2.2.2.2.2.2.2.2.1 μ ν hR (xs (nI i + nI 1).toNatClampNeg)
  refine a_aload_n (pc1 := 1138) C d_law_1137 rfl rfl 2 rfl ?_
  refine a_aload_n (pc1 := 1139) C d_law_1138 rfl rfl 3 rfl ?_
  refine a_iload_n (pc1 := 1140) C d_law_1139 rfl rfl 0 rfl ?_
  refine a_iconst (pc1 := 1141) (v := (nI 1)) C d_law_1140 rfl (by decide) ?_
  refine a_iadd (pc1 := 1142) C d_law_1141 rfl ?_
  refine a_sld (pc1 := 1143) C hX hbl hbA (law_in (k := 1) (by omega) hLL) d_law_1142 rfl ?_
  refine a_callFI (pc1 := 1146) (As := [.int (xs ((nI i) + (nI 1)).toNatClampNeg)]) (rest := []) (b := a 0) C hK 1 (frC a b cs μ ν μ1 hAa) (c_T_image l D cs a μ (xs ((nI i) + (nI 1)).toNatClampNeg) r μ1 h1) s_T_image kl_56 0 rfl rfl rfl ⟨Nat.le_of_ble_eq_true rfl, Nat.le_of_ble_eq_true rfl⟩ ⟨rfl, rfl⟩ ⟨Nat.le_of_ble_eq_true rfl, Nat.le_of_ble_eq_true rfl⟩ d_law_1143 rfl rfl (Nat.le_of_ble_eq_true rfl) ?_
  refine a_aload_n (pc1 := 1147) C d_law_1146 rfl rfl 1 rfl ?_
  refine a_aload_n (pc1 := 1148) C d_law_1147 rfl rfl 3 rfl ?_
  refine a_iload_n (pc1 := 1149) C d_law_1148 rfl rfl 0 rfl ?_
  refine a_iconst (pc1 := 1150) (v := (nI 1)) C d_law_1149 rfl (by decide) ?_
  refine a_iadd (pc1 := 1151) C d_law_1150 rfl ?_
  refine a_sld (pc1 := 1152) C hX hbl hbA (law_in (k := 1) (by omega) hLL) d_law_1151 rfl ?_
  refine a_callFI (pc1 := 1155) (As := [.int (xs ((nI i) + (nI 1)).toNatClampNeg)]) (rest := [.int r]) (b := b 0) C hK 1 (frM a b cs μ1 ν ν1 hAb) (c_M_image l D cs b ν (xs ((nI i) + (nI 1)).toNatClampNeg) r ν1 h2) s_M_image kl_57 36 rfl rfl rfl ⟨Nat.le_of_ble_eq_true rfl, Nat.le_of_ble_eq_true rfl⟩ ⟨rfl, rfl⟩ ⟨Nat.le_of_ble_eq_true rfl, Nat.le_of_ble_eq_true rfl⟩ d_law_1152 rfl rfl (Nat.le_of_ble_eq_true rfl) ?_
  refine a_icmp_eq (pc1 := 1158) C 1243 d_law_1155 rfl (by decide) (fun _ => ?_) (fun c3 => absurd rfl c3)
  exact kk μ1 ν1 hR1
theorem kl_58 : Cond.methodLink "TentPegsLaw" 136 y_T_from ∈ TT := tm 861 (by decide +kernel) (by decide +kernel)
theorem kl_59 : Cond.methodLink "TentPegsLaw" 139 y_M_from ∈ TT := tm 1274 (by decide +kernel) (by decide +kernel)
set_option maxHeartbeats 4000000 in
set_option maxRecDepth 100000 in
theorem law_29 {p : Program} {l : Launch} {e : Env} {s : State} {m : MethodId} {args : Array Value} {below : List Frame} {meth : Method} {c : Code} {Q : State → Prop} {D : va_G} {A : Nat → Prop} {cs : Nat → ClassId} {a b : Nat → Nat} {adK adV : Nat → Nat} {sb LL : Nat} {xs : Nat → Int32} {Rel : Mem → Mem → Prop} (C : Cx p s m args c code 4 "TentPegsLaw") (hK : va_K D classes (tys cs) s) (hSx : Sx adK adV A s s.heap) (hX : va_X sb LL xs s s.heap) (hbl : sb < s.heap.size) (hbA : ¬ A sb) (hAa : ∀ q, AC a q → A q) (hAb : ∀ q, AM b q → A q) (hOK : RelOK Rel) (hLL : LL ≤ 320) (i : Nat) (hi : i + 5 ≤ LL) (μ ν : Mem) (hR : Rel μ ν) (kk : ∀ μ ν, Rel μ ν → GA p l e room_1 s m args below meth c Q D A 4 47 1521 (WC a cs μ ++ WM b cs ν) 1243 [(3, .int (nI i)), (2, .ref (b 0)), (1, .ref (a 0)), (0, .ref sb)] []) : GA p l e room_1 s m args below meth c Q D A 4 47 1521 (WC a cs μ ++ WM b cs ν) 1160 [(3, .int (nI i)), (2, .ref (b 0)), (1, .ref (a 0)), (0, .ref sb)] [] := by
  obtain ⟨r, μ1, ν1, h1, h2, hR1⟩ := hOK.2.2.2.2.2.2.2.2.2.2.2.2.2.2.2.2.2.2.2.2.2.2.2.2.2.2.2.2.2.1 μ ν hR (xs (nI i + nI 1).toNatClampNeg)
  refine a_aload_n (pc1 := 1161) C d_law_1160 rfl rfl 2 rfl ?_
  refine a_aload_n (pc1 := 1162) C d_law_1161 rfl rfl 3 rfl ?_
  refine a_iload_n (pc1 := 1163) C d_law_1162 rfl rfl 0 rfl ?_
  refine a_iconst (pc1 := 1164) (v := (nI 1)) C d_law_1163 rfl (by decide) ?_
  refine a_iadd (pc1 := 1165) C d_law_1164 rfl ?_
  refine a_sld (pc1 := 1166) C hX hbl hbA (law_in (k := 1) (by omega) hLL) d_law_1165 rfl ?_
  refine a_callFI (pc1 := 1169) (As := [.int (xs ((nI i) + (nI 1)).toNatClampNeg)]) (rest := []) (b := a 0) C hK 1 (frC a b cs μ ν μ1 hAa) (c_T_from l D cs a μ (xs ((nI i) + (nI 1)).toNatClampNeg) r μ1 h1) s_T_from kl_58 0 rfl rfl rfl ⟨Nat.le_of_ble_eq_true rfl, Nat.le_of_ble_eq_true rfl⟩ ⟨rfl, rfl⟩ ⟨Nat.le_of_ble_eq_true rfl, Nat.le_of_ble_eq_true rfl⟩ d_law_1166 rfl rfl (Nat.le_of_ble_eq_true rfl) ?_
  refine a_aload_n (pc1 := 1170) C d_law_1169 rfl rfl 1 rfl ?_
  refine a_aload_n (pc1 := 1171) C d_law_1170 rfl rfl 3 rfl ?_
  refine a_iload_n (pc1 := 1172) C d_law_1171 rfl rfl 0 rfl ?_
  refine a_iconst (pc1 := 1173) (v := (nI 1)) C d_law_1172 rfl (by decide) ?_
  refine a_iadd (pc1 := 1174) C d_law_1173 rfl ?_
  refine a_sld (pc1 := 1175) C hX hbl hbA (law_in (k := 1) (by omega) hLL) d_law_1174 rfl ?_
  refine a_callFI (pc1 := 1178) (As := [.int (xs ((nI i) + (nI 1)).toNatClampNeg)]) (rest := [.int r]) (b := b 0) C hK 1 (frM a b cs μ1 ν ν1 hAb) (c_M_from l D cs b ν (xs ((nI i) + (nI 1)).toNatClampNeg) r ν1 h2) s_M_from kl_59 36 rfl rfl rfl ⟨Nat.le_of_ble_eq_true rfl, Nat.le_of_ble_eq_true rfl⟩ ⟨rfl, rfl⟩ ⟨Nat.le_of_ble_eq_true rfl, Nat.le_of_ble_eq_true rfl⟩ d_law_1175 rfl rfl (Nat.le_of_ble_eq_true rfl) ?_
  refine a_icmp_eq (pc1 := 1181) C 1243 d_law_1178 rfl (by decide) (fun _ => ?_) (fun c3 => absurd rfl c3)
  exact kk μ1 ν1 hR1
theorem kl_60 : Cond.methodLink "TentPegsLaw" 140 y_T_status ∈ TT := tm 865 (by decide +kernel) (by decide +kernel)
theorem kl_61 : Cond.methodLink "TentPegsLaw" 143 y_M_status ∈ TT := tm 1278 (by decide +kernel) (by decide +kernel)
set_option maxHeartbeats 4000000 in
set_option maxRecDepth 100000 in
theorem law_30 {p : Program} {l : Launch} {e : Env} {s : State} {m : MethodId} {args : Array Value} {below : List Frame} {meth : Method} {c : Code} {Q : State → Prop} {D : va_G} {A : Nat → Prop} {cs : Nat → ClassId} {a b : Nat → Nat} {adK adV : Nat → Nat} {sb LL : Nat} {xs : Nat → Int32} {Rel : Mem → Mem → Prop} (C : Cx p s m args c code 4 "TentPegsLaw") (hK : va_K D classes (tys cs) s) (hSx : Sx adK adV A s s.heap) (hX : va_X sb LL xs s s.heap) (hbl : sb < s.heap.size) (hbA : ¬ A sb) (hAa : ∀ q, AC a q → A q) (hAb : ∀ q, AM b q → A q) (hOK : RelOK Rel) (hLL : LL ≤ 320) (i : Nat) (hi : i + 5 ≤ LL) (μ ν : Mem) (hR : Rel μ ν) (kk : ∀ μ ν, Rel μ ν → GA p l e room_1 s m args below meth c Q D A 4 47 1521 (WC a cs μ ++ WM b cs ν) 1243 [(3, .int (nI i)), (2, .ref (b 0)), (1, .ref (a 0)), (0, .ref sb)] []) : GA p l e room_1 s m args below meth c Q D A 4 47 1521 (WC a cs μ ++ WM b cs ν) 1183 [(3, .int (nI i)), (2, .ref (b 0)), (1, .ref (a 0)), (0, .ref sb)] [] := by
  obtain ⟨r, μ1, ν1, h1, h2, hR1⟩ := hOK.2.2.2.2.2.2.2.2.2.2.2.2.2.2.2.2.2.2.2.2.2.2.2.2.2.2.2.2.2.2.1 μ ν hR (xs (nI i + nI 1).toNatClampNeg)
  refine a_aload_n (pc1 := 1184) C d_law_1183 rfl rfl 2 rfl ?_
  refine a_aload_n (pc1 := 1185) C d_law_1184 rfl rfl 3 rfl ?_
  refine a_iload_n (pc1 := 1186) C d_law_1185 rfl rfl 0 rfl ?_
  refine a_iconst (pc1 := 1187) (v := (nI 1)) C d_law_1186 rfl (by decide) ?_
  refine a_iadd (pc1 := 1188) C d_law_1187 rfl ?_
  refine a_sld (pc1 := 1189) C hX hbl hbA (law_in (k := 1) (by omega) hLL) d_law_1188 rfl ?_
  refine a_callFI (pc1 := 1192) (As := [.int (xs ((nI i) + (nI 1)).toNatClampNeg)]) (rest := []) (b := a 0) C hK 1 (frC a b cs μ ν μ1 hAa) (c_T_status l D cs a μ (xs ((nI i) + (nI 1)).toNatClampNeg) r μ1 h1) s_T_status kl_60 0 rfl rfl rfl ⟨Nat.le_of_ble_eq_true rfl, Nat.le_of_ble_eq_true rfl⟩ ⟨rfl, rfl⟩ ⟨Nat.le_of_ble_eq_true rfl, Nat.le_of_ble_eq_true rfl⟩ d_law_1189 rfl rfl (Nat.le_of_ble_eq_true rfl) ?_
  refine a_aload_n (pc1 := 1193) C d_law_1192 rfl rfl 1 rfl ?_
  refine a_aload_n (pc1 := 1194) C d_law_1193 rfl rfl 3 rfl ?_
  refine a_iload_n (pc1 := 1195) C d_law_1194 rfl rfl 0 rfl ?_
  refine a_iconst (pc1 := 1196) (v := (nI 1)) C d_law_1195 rfl (by decide) ?_
  refine a_iadd (pc1 := 1197) C d_law_1196 rfl ?_
  refine a_sld (pc1 := 1198) C hX hbl hbA (law_in (k := 1) (by omega) hLL) d_law_1197 rfl ?_
  refine a_callFI (pc1 := 1201) (As := [.int (xs ((nI i) + (nI 1)).toNatClampNeg)]) (rest := [.int r]) (b := b 0) C hK 1 (frM a b cs μ1 ν ν1 hAb) (c_M_status l D cs b ν (xs ((nI i) + (nI 1)).toNatClampNeg) r ν1 h2) s_M_status kl_61 36 rfl rfl rfl ⟨Nat.le_of_ble_eq_true rfl, Nat.le_of_ble_eq_true rfl⟩ ⟨rfl, rfl⟩ ⟨Nat.le_of_ble_eq_true rfl, Nat.le_of_ble_eq_true rfl⟩ d_law_1198 rfl rfl (Nat.le_of_ble_eq_true rfl) ?_
  refine a_icmp_eq (pc1 := 1204) C 1243 d_law_1201 rfl (by decide) (fun _ => ?_) (fun c3 => absurd rfl c3)
  exact kk μ1 ν1 hR1
theorem kl_62 : Cond.methodLink "TentPegsLaw" 144 y_T_count ∈ TT := tm 869 (by decide +kernel) (by decide +kernel)
theorem kl_63 : Cond.methodLink "TentPegsLaw" 147 y_M_count ∈ TT := tm 1282 (by decide +kernel) (by decide +kernel)
set_option maxHeartbeats 4000000 in
set_option maxRecDepth 100000 in
theorem law_31 {p : Program} {l : Launch} {e : Env} {s : State} {m : MethodId} {args : Array Value} {below : List Frame} {meth : Method} {c : Code} {Q : State → Prop} {D : va_G} {A : Nat → Prop} {cs : Nat → ClassId} {a b : Nat → Nat} {adK adV : Nat → Nat} {sb LL : Nat} {xs : Nat → Int32} {Rel : Mem → Mem → Prop} (C : Cx p s m args c code 4 "TentPegsLaw") (hK : va_K D classes (tys cs) s) (hSx : Sx adK adV A s s.heap) (hX : va_X sb LL xs s s.heap) (hbl : sb < s.heap.size) (hbA : ¬ A sb) (hAa : ∀ q, AC a q → A q) (hAb : ∀ q, AM b q → A q) (hOK : RelOK Rel) (hLL : LL ≤ 320) (i : Nat) (hi : i + 5 ≤ LL) (μ ν : Mem) (hR : Rel μ ν) (kk : ∀ μ ν, Rel μ ν → GA p l e room_1 s m args below meth c Q D A 4 47 1521 (WC a cs μ ++ WM b cs ν) 1243 [(3, .int (nI i)), (2, .ref (b 0)), (1, .ref (a 0)), (0, .ref sb)] []) : GA p l e room_1 s m args below meth c Q D A 4 47 1521 (WC a cs μ ++ WM b cs ν) 1206 [(3, .int (nI i)), (2, .ref (b 0)), (1, .ref (a 0)), (0, .ref sb)] [] := by
  obtain ⟨r, μ1, ν1, h1, h2, hR1⟩ := hOK.2.2.2.2.2.2.2.2.2.2.2.2.2.2.2.2.2.2.2.2.2.2.2.2.2.2.2.2.2.2.2.1 μ ν hR (xs (nI i + nI 1).toNatClampNeg)
  refine a_aload_n (pc1 := 1207) C d_law_1206 rfl rfl 2 rfl ?_
  refine a_aload_n (pc1 := 1208) C d_law_1207 rfl rfl 3 rfl ?_
  refine a_iload_n (pc1 := 1209) C d_law_1208 rfl rfl 0 rfl ?_
  refine a_iconst (pc1 := 1210) (v := (nI 1)) C d_law_1209 rfl (by decide) ?_
  refine a_iadd (pc1 := 1211) C d_law_1210 rfl ?_
  refine a_sld (pc1 := 1212) C hX hbl hbA (law_in (k := 1) (by omega) hLL) d_law_1211 rfl ?_
  refine a_callFI (pc1 := 1215) (As := [.int (xs ((nI i) + (nI 1)).toNatClampNeg)]) (rest := []) (b := a 0) C hK 1 (frC a b cs μ ν μ1 hAa) (c_T_count l D cs a μ (xs ((nI i) + (nI 1)).toNatClampNeg) r μ1 h1) s_T_count kl_62 0 rfl rfl rfl ⟨Nat.le_of_ble_eq_true rfl, Nat.le_of_ble_eq_true rfl⟩ ⟨rfl, rfl⟩ ⟨Nat.le_of_ble_eq_true rfl, Nat.le_of_ble_eq_true rfl⟩ d_law_1212 rfl rfl (Nat.le_of_ble_eq_true rfl) ?_
  refine a_aload_n (pc1 := 1216) C d_law_1215 rfl rfl 1 rfl ?_
  refine a_aload_n (pc1 := 1217) C d_law_1216 rfl rfl 3 rfl ?_
  refine a_iload_n (pc1 := 1218) C d_law_1217 rfl rfl 0 rfl ?_
  refine a_iconst (pc1 := 1219) (v := (nI 1)) C d_law_1218 rfl (by decide) ?_
  refine a_iadd (pc1 := 1220) C d_law_1219 rfl ?_
  refine a_sld (pc1 := 1221) C hX hbl hbA (law_in (k := 1) (by omega) hLL) d_law_1220 rfl ?_
  refine a_callFI (pc1 := 1224) (As := [.int (xs ((nI i) + (nI 1)).toNatClampNeg)]) (rest := [.int r]) (b := b 0) C hK 1 (frM a b cs μ1 ν ν1 hAb) (c_M_count l D cs b ν (xs ((nI i) + (nI 1)).toNatClampNeg) r ν1 h2) s_M_count kl_63 36 rfl rfl rfl ⟨Nat.le_of_ble_eq_true rfl, Nat.le_of_ble_eq_true rfl⟩ ⟨rfl, rfl⟩ ⟨Nat.le_of_ble_eq_true rfl, Nat.le_of_ble_eq_true rfl⟩ d_law_1221 rfl rfl (Nat.le_of_ble_eq_true rfl) ?_
  refine a_icmp_eq (pc1 := 1227) C 1243 d_law_1224 rfl (by decide) (fun _ => ?_) (fun c3 => absurd rfl c3)
  exact kk μ1 ν1 hR1
theorem kl_64 : Cond.methodLink "TentPegsLaw" 148 y_T_digest ∈ TT := tm 877 (by decide +kernel) (by decide +kernel)
theorem kl_65 : Cond.methodLink "TentPegsLaw" 152 y_M_digest ∈ TT := tm 1290 (by decide +kernel) (by decide +kernel)
set_option maxHeartbeats 4000000 in
set_option maxRecDepth 100000 in
theorem law_32 {p : Program} {l : Launch} {e : Env} {s : State} {m : MethodId} {args : Array Value} {below : List Frame} {meth : Method} {c : Code} {Q : State → Prop} {D : va_G} {A : Nat → Prop} {cs : Nat → ClassId} {a b : Nat → Nat} {adK adV : Nat → Nat} {sb LL : Nat} {xs : Nat → Int32} {Rel : Mem → Mem → Prop} (C : Cx p s m args c code 4 "TentPegsLaw") (hK : va_K D classes (tys cs) s) (hSx : Sx adK adV A s s.heap) (hX : va_X sb LL xs s s.heap) (hbl : sb < s.heap.size) (hbA : ¬ A sb) (hAa : ∀ q, AC a q → A q) (hAb : ∀ q, AM b q → A q) (hOK : RelOK Rel) (hLL : LL ≤ 320) (i : Nat) (hi : i + 5 ≤ LL) (μ ν : Mem) (hR : Rel μ ν) (kk : ∀ μ ν, Rel μ ν → GA p l e room_1 s m args below meth c Q D A 4 47 1521 (WC a cs μ ++ WM b cs ν) 1243 [(3, .int (nI i)), (2, .ref (b 0)), (1, .ref (a 0)), (0, .ref sb)] []) : GA p l e room_1 s m args below meth c Q D A 4 47 1521 (WC a cs μ ++ WM b cs ν) 1229 [(3, .int (nI i)), (2, .ref (b 0)), (1, .ref (a 0)), (0, .ref sb)] [] := by
  obtain ⟨r, ν1, h1, h2, hR1⟩ := hOK.2.2.2.2.2.2.2.2.2.2.2.2.2.2.2.2.2.2.2.2.2.2.2.2.2.2.2.2.2.2.2.2 μ ν hR 
  refine a_aload_n (pc1 := 1230) C d_law_1229 rfl rfl 2 rfl ?_
  refine a_callFL (pc1 := 1233) (As := []) (rest := []) (b := a 0) C hK 0 (frC a b cs μ ν μ hAa) (c_T_digest l D cs a μ  r h1) s_T_digest kl_64 0 rfl rfl rfl ⟨Nat.le_of_ble_eq_true rfl, Nat.le_of_ble_eq_true rfl⟩ ⟨rfl, rfl⟩ ⟨Nat.le_of_ble_eq_true rfl, Nat.le_of_ble_eq_true rfl⟩ d_law_1230 rfl rfl (Nat.le_of_ble_eq_true rfl) ?_
  refine a_aload_n (pc1 := 1234) C d_law_1233 rfl rfl 1 rfl ?_
  refine a_callFL (pc1 := 1237) (As := []) (rest := [.long r]) (b := b 0) C hK 0 (frM a b cs μ ν ν1 hAb) (c_M_digest l D cs b ν  r ν1 h2) s_M_digest kl_65 36 rfl rfl rfl ⟨Nat.le_of_ble_eq_true rfl, Nat.le_of_ble_eq_true rfl⟩ ⟨rfl, rfl⟩ ⟨Nat.le_of_ble_eq_true rfl, Nat.le_of_ble_eq_true rfl⟩ d_law_1234 rfl rfl (Nat.le_of_ble_eq_true rfl) ?_
  refine a_lcmp (pc1 := 1238) C d_law_1237 rfl ?_
  refine a_if_eq (pc1 := 1241) C 1243 d_law_1238 rfl (by decide) (fun _ => ?_) (fun c3 => absurd (lg_cmp_self r) c3)
  exact kk μ ν1 hR1
set_option maxHeartbeats 4000000 in
set_option maxRecDepth 100000 in
theorem law_loop {p : Program} {l : Launch} {e : Env} {s : State} {m : MethodId} {args : Array Value} {below : List Frame} {meth : Method} {c : Code} {Q : State → Prop} {D : va_G} {A : Nat → Prop} {cs : Nat → ClassId} {a b : Nat → Nat} {adK adV : Nat → Nat} {sb LL : Nat} {xs : Nat → Int32} {Rel : Mem → Mem → Prop} (C : Cx p s m args c code 4 "TentPegsLaw") (hK : va_K D classes (tys cs) s) (hSx : Sx adK adV A s s.heap) (hX : va_X sb LL xs s s.heap) (hbl : sb < s.heap.size) (hbA : ¬ A sb) (hAa : ∀ q, AC a q → A q) (hAb : ∀ q, AM b q → A q) (hOK : RelOK Rel) (hLL : LL ≤ 320) (kend : ∀ (i : Nat) (μ ν : Mem), GA p l e room_1 s m args below meth c Q D A 4 47 1521 (WC a cs μ ++ WM b cs ν) 1249 [(3, .int (nI i)), (2, .ref (b 0)), (1, .ref (a 0)), (0, .ref sb)] []) : ∀ (n i : Nat), i ≤ 325 → LL ≤ i + 5 * n → ∀ μ ν : Mem, Rel μ ν → GA p l e room_1 s m args below meth c Q D A 4 47 1521 (WC a cs μ ++ WM b cs ν) 18 [(3, .int (nI i)), (2, .ref (b 0)), (1, .ref (a 0)), (0, .ref sb)] [] := by
  intro n
  induction n with
  | zero =>
    intro i hi5 hn μ ν hR
    refine a_iload_n (pc1 := 19) C d_law_18 rfl rfl 0 rfl ?_
    refine a_aload_n (pc1 := 20) C d_law_19 rfl rfl 3 rfl ?_
    refine a_slen (pc1 := 21) C hX hbl hbA d_law_20 rfl ?_
    refine a_iconst (pc1 := 22) (v := 5) C d_law_21 rfl (by decide) ?_
    refine a_isub (pc1 := 23) C d_law_22 rfl ?_
    refine a_icmp_gt (pc1 := 26) C 1249 d_law_23 rfl (by decide) (fun c1 => kend i μ ν) (fun c1 => absurd ((law_cond hLL (by omega)).mpr (by omega)) c1)
  | succ n ih =>
    intro i hi5 hn μ ν hR
    refine a_iload_n (pc1 := 19) C d_law_18 rfl rfl 0 rfl ?_
    refine a_aload_n (pc1 := 20) C d_law_19 rfl rfl 3 rfl ?_
    refine a_slen (pc1 := 21) C hX hbl hbA d_law_20 rfl ?_
    refine a_iconst (pc1 := 22) (v := 5) C d_law_21 rfl (by decide) ?_
    refine a_isub (pc1 := 23) C d_law_22 rfl ?_
    refine a_icmp_gt (pc1 := 26) C 1249 d_law_23 rfl (by decide) (fun c1 => kend i μ ν) (fun c1 => ?_)
    have hi : i + 5 ≤ LL := by
      have h9 := mt (law_cond hLL (by omega)).mpr c1
      omega
    have kk : ∀ μ ν, Rel μ ν → GA p l e room_1 s m args below meth c Q D A 4 47 1521 (WC a cs μ ++ WM b cs ν) 1243 [(3, .int (nI i)), (2, .ref (b 0)), (1, .ref (a 0)), (0, .ref sb)] [] := by
      intro μ ν hR
      refine a_iinc (pc1 := 1246) (v := nI (i + 5)) (L1 := [(3, .int (nI (i + 5))), (2, .ref (b 0)), (1, .ref (a 0)), (0, .ref sb)]) C d_law_1243 rfl 0 rfl (lw_nI_add i 5) (by decide) rfl ?_
      refine a_goto C 18 d_law_1246 (by decide) ?_
      exact ih (i + 5) (by omega) (by omega) μ ν hR
    refine a_aload_n (pc1 := 27) C d_law_26 rfl rfl 3 rfl ?_
    refine a_iload_n (pc1 := 28) C d_law_27 rfl rfl 0 rfl ?_
    refine a_sld (pc1 := 29) C hX hbl hbA (law_in0 (by omega) hLL) d_law_28 rfl ?_
    refine a_bipush (pc1 := 31) (v := 63) C d_law_29 rfl (by decide) ?_
    refine a_iand (pc1 := 32) C d_law_31 rfl ?_
    generalize xs (nI i).toNatClampNeg &&& 63 = w
    by_cases h0 : w = 0
    · exact a_tblIn C 180 d_law_32 0 (by rw [h0]; rfl) (by decide) (by decide) rfl (by decide) (law_0 C hK hSx hX hbl hbA hAa hAb hOK hLL i hi μ ν hR kk)
    by_cases h1 : w = 1
    · exact a_tblIn C 203 d_law_32 1 (by rw [h1]; rfl) (by decide) (by decide) rfl (by decide) (law_1 C hK hSx hX hbl hbA hAa hAb hOK hLL i hi μ ν hR kk)
    by_cases h2 : w = 2
    · exact a_tblIn C 256 d_law_32 2 (by rw [h2]; rfl) (by decide) (by decide) rfl (by decide) (law_2 C hK hSx hX hbl hbA hAa hAb hOK hLL i hi μ ν hR kk)
    by_cases h3 : w = 3
    · exact a_tblIn C 279 d_law_32 3 (by rw [h3]; rfl) (by decide) (by decide) rfl (by decide) (law_3 C hK hSx hX hbl hbA hAa hAb hOK hLL i hi μ ν hR kk)
    by_cases h4 : w = 4
    · exact a_tblIn C 328 d_law_32 4 (by rw [h4]; rfl) (by decide) (by decide) rfl (by decide) (law_4 C hK hSx hX hbl hbA hAa hAb hOK hLL i hi μ ν hR kk)
    by_cases h5 : w = 5
    · exact a_tblIn C 361 d_law_32 5 (by rw [h5]; rfl) (by decide) (by decide) rfl (by decide) (law_5 C hK hSx hX hbl hbA hAa hAb hOK hLL i hi μ ν hR kk)
    by_cases h6 : w = 6
    · exact a_tblIn C 384 d_law_32 6 (by rw [h6]; rfl) (by decide) (by decide) rfl (by decide) (law_6 C hK hSx hX hbl hbA hAa hAb hOK hLL i hi μ ν hR kk)
    by_cases h7 : w = 7
    · exact a_tblIn C 397 d_law_32 7 (by rw [h7]; rfl) (by decide) (by decide) rfl (by decide) (law_7 C hK hSx hX hbl hbA hAa hAb hOK hLL i hi μ ν hR kk)
    by_cases h8 : w = 8
    · exact a_tblIn C 410 d_law_32 8 (by rw [h8]; rfl) (by decide) (by decide) rfl (by decide) (law_8 C hK hSx hX hbl hbA hAa hAb hOK hLL i hi μ ν hR kk)
    by_cases h9 : w = 9
    · exact a_tblIn C 443 d_law_32 9 (by rw [h9]; rfl) (by decide) (by decide) rfl (by decide) (law_9 C hK hSx hX hbl hbA hAa hAb hOK hLL i hi μ ν hR kk)
    by_cases h10 : w = 10
    · exact a_tblIn C 492 d_law_32 10 (by rw [h10]; rfl) (by decide) (by decide) rfl (by decide) (law_10 C hK hSx hX hbl hbA hAa hAb hOK hLL i hi μ ν hR kk)
    by_cases h11 : w = 11
    · exact a_tblIn C 505 d_law_32 11 (by rw [h11]; rfl) (by decide) (by decide) rfl (by decide) (law_11 C hK hSx hX hbl hbA hAa hAb hOK hLL i hi μ ν hR kk)
    by_cases h12 : w = 12
    · exact a_tblIn C 538 d_law_32 12 (by rw [h12]; rfl) (by decide) (by decide) rfl (by decide) (law_12 C hK hSx hX hbl hbA hAa hAb hOK hLL i hi μ ν hR kk)
    by_cases h13 : w = 13
    · exact a_tblIn C 581 d_law_32 13 (by rw [h13]; rfl) (by decide) (by decide) rfl (by decide) (law_13 C hK hSx hX hbl hbA hAa hAb hOK hLL i hi μ ν hR kk)
    by_cases h14 : w = 14
    · exact a_tblIn C 624 d_law_32 14 (by rw [h14]; rfl) (by decide) (by decide) rfl (by decide) (law_14 C hK hSx hX hbl hbA hAa hAb hOK hLL i hi μ ν hR kk)
    by_cases h15 : w = 15
    · exact a_tblIn C 667 d_law_32 15 (by rw [h15]; rfl) (by decide) (by decide) rfl (by decide) (law_15 C hK hSx hX hbl hbA hAa hAb hOK hLL i hi μ ν hR kk)
    by_cases h16 : w = 16
    · exact a_tblIn C 690 d_law_32 16 (by rw [h16]; rfl) (by decide) (by decide) rfl (by decide) (law_16 C hK hSx hX hbl hbA hAa hAb hOK hLL i hi μ ν hR kk)
    by_cases h17 : w = 17
    · exact a_tblIn C 723 d_law_32 17 (by rw [h17]; rfl) (by decide) (by decide) rfl (by decide) (law_17 C hK hSx hX hbl hbA hAa hAb hOK hLL i hi μ ν hR kk)
    by_cases h18 : w = 18
    · exact a_tblIn C 766 d_law_32 18 (by rw [h18]; rfl) (by decide) (by decide) rfl (by decide) (law_18 C hK hSx hX hbl hbA hAa hAb hOK hLL i hi μ ν hR kk)
    by_cases h19 : w = 19
    · exact a_tblIn C 789 d_law_32 19 (by rw [h19]; rfl) (by decide) (by decide) rfl (by decide) (law_19 C hK hSx hX hbl hbA hAa hAb hOK hLL i hi μ ν hR kk)
    by_cases h20 : w = 20
    · exact a_tblIn C 812 d_law_32 20 (by rw [h20]; rfl) (by decide) (by decide) rfl (by decide) (law_20 C hK hSx hX hbl hbA hAa hAb hOK hLL i hi μ ν hR kk)
    by_cases h21 : w = 21
    · exact a_tblIn C 845 d_law_32 21 (by rw [h21]; rfl) (by decide) (by decide) rfl (by decide) (law_21 C hK hSx hX hbl hbA hAa hAb hOK hLL i hi μ ν hR kk)
    by_cases h22 : w = 22
    · exact a_tblIn C 898 d_law_32 22 (by rw [h22]; rfl) (by decide) (by decide) rfl (by decide) (law_22 C hK hSx hX hbl hbA hAa hAb hOK hLL i hi μ ν hR kk)
    by_cases h23 : w = 23
    · exact a_tblIn C 931 d_law_32 23 (by rw [h23]; rfl) (by decide) (by decide) rfl (by decide) (law_23 C hK hSx hX hbl hbA hAa hAb hOK hLL i hi μ ν hR kk)
    by_cases h24 : w = 24
    · exact a_tblIn C 974 d_law_32 24 (by rw [h24]; rfl) (by decide) (by decide) rfl (by decide) (law_24 C hK hSx hX hbl hbA hAa hAb hOK hLL i hi μ ν hR kk)
    by_cases h25 : w = 25
    · exact a_tblIn C 1017 d_law_32 25 (by rw [h25]; rfl) (by decide) (by decide) rfl (by decide) (law_25 C hK hSx hX hbl hbA hAa hAb hOK hLL i hi μ ν hR kk)
    by_cases h26 : w = 26
    · exact a_tblIn C 1070 d_law_32 26 (by rw [h26]; rfl) (by decide) (by decide) rfl (by decide) (law_26 C hK hSx hX hbl hbA hAa hAb hOK hLL i hi μ ν hR kk)
    by_cases h27 : w = 27
    · exact a_tblIn C 1113 d_law_32 27 (by rw [h27]; rfl) (by decide) (by decide) rfl (by decide) (law_27 C hK hSx hX hbl hbA hAa hAb hOK hLL i hi μ ν hR kk)
    by_cases h28 : w = 28
    · exact a_tblIn C 1137 d_law_32 28 (by rw [h28]; rfl) (by decide) (by decide) rfl (by decide) (law_28 C hK hSx hX hbl hbA hAa hAb hOK hLL i hi μ ν hR kk)
    by_cases h29 : w = 29
    · exact a_tblIn C 1160 d_law_32 29 (by rw [h29]; rfl) (by decide) (by decide) rfl (by decide) (law_29 C hK hSx hX hbl hbA hAa hAb hOK hLL i hi μ ν hR kk)
    by_cases h30 : w = 30
    · exact a_tblIn C 1183 d_law_32 30 (by rw [h30]; rfl) (by decide) (by decide) rfl (by decide) (law_30 C hK hSx hX hbl hbA hAa hAb hOK hLL i hi μ ν hR kk)
    by_cases h31 : w = 31
    · exact a_tblIn C 1206 d_law_32 31 (by rw [h31]; rfl) (by decide) (by decide) rfl (by decide) (law_31 C hK hSx hX hbl hbA hAa hAb hOK hLL i hi μ ν hR kk)
    by_cases h32 : w = 32
    · exact a_tblIn C 1229 d_law_32 32 (by rw [h32]; rfl) (by decide) (by decide) rfl (by decide) (law_32 C hK hSx hX hbl hbA hAa hAb hOK hLL i hi μ ν hR kk)
    have q0 := ne_toInt (z := 0) rfl h0
    have q1 := ne_toInt (z := 1) rfl h1
    have q2 := ne_toInt (z := 2) rfl h2
    have q3 := ne_toInt (z := 3) rfl h3
    have q4 := ne_toInt (z := 4) rfl h4
    have q5 := ne_toInt (z := 5) rfl h5
    have q6 := ne_toInt (z := 6) rfl h6
    have q7 := ne_toInt (z := 7) rfl h7
    have q8 := ne_toInt (z := 8) rfl h8
    have q9 := ne_toInt (z := 9) rfl h9
    have q10 := ne_toInt (z := 10) rfl h10
    have q11 := ne_toInt (z := 11) rfl h11
    have q12 := ne_toInt (z := 12) rfl h12
    have q13 := ne_toInt (z := 13) rfl h13
    have q14 := ne_toInt (z := 14) rfl h14
    have q15 := ne_toInt (z := 15) rfl h15
    have q16 := ne_toInt (z := 16) rfl h16
    have q17 := ne_toInt (z := 17) rfl h17
    have q18 := ne_toInt (z := 18) rfl h18
    have q19 := ne_toInt (z := 19) rfl h19
    have q20 := ne_toInt (z := 20) rfl h20
    have q21 := ne_toInt (z := 21) rfl h21
    have q22 := ne_toInt (z := 22) rfl h22
    have q23 := ne_toInt (z := 23) rfl h23
    have q24 := ne_toInt (z := 24) rfl h24
    have q25 := ne_toInt (z := 25) rfl h25
    have q26 := ne_toInt (z := 26) rfl h26
    have q27 := ne_toInt (z := 27) rfl h27
    have q28 := ne_toInt (z := 28) rfl h28
    have q29 := ne_toInt (z := 29) rfl h29
    have q30 := ne_toInt (z := 30) rfl h30
    have q31 := ne_toInt (z := 31) rfl h31
    have q32 := ne_toInt (z := 32) rfl h32
    exact a_tblOut C 1243 d_law_32 (by omega) (by decide) (kk μ ν hR)
