/-! the law's loop, rows by program (gen_law.py) -/
theorem d_L_law_23 : decode m_L_law.2.1 23 = .ok (.iload 4, 2) := by decide +kernel
theorem d_L_law_25 : decode m_L_law.2.1 25 = .ok (.aload_n 0, 1) := by decide +kernel
theorem d_L_law_26 : decode m_L_law.2.1 26 = .ok (.arraylength, 1) := by decide +kernel
theorem d_L_law_27 : decode m_L_law.2.1 27 = .ok (.bipush 6, 2) := by decide +kernel
theorem d_L_law_29 : decode m_L_law.2.1 29 = .ok (.isub, 1) := by decide +kernel
theorem d_L_law_30 : decode m_L_law.2.1 30 = .ok (.if_icmp .gt 1311, 3) := by decide +kernel
theorem d_L_law_33 : decode m_L_law.2.1 33 = .ok (.aload_n 0, 1) := by decide +kernel
theorem d_L_law_34 : decode m_L_law.2.1 34 = .ok (.iload 4, 2) := by decide +kernel
theorem d_L_law_36 : decode m_L_law.2.1 36 = .ok (.iaload, 1) := by decide +kernel
theorem d_L_law_37 : decode m_L_law.2.1 37 = .ok (.bipush 63, 2) := by decide +kernel
theorem d_L_law_39 : decode m_L_law.2.1 39 = .ok (.iand, 1) := by decide +kernel
theorem d_L_law_40 : decode m_L_law.2.1 40 = .ok (.tableswitch 1295 0 36 #[164, 237, 262, 275, 288, 313, 381, 418, 455, 480, 493, 506, 519, 587, 600, 637, 674, 723, 736, 761, 798, 811, 824, 837, 850, 875, 912, 949, 998, 1059, 1120, 1145, 1182, 1195, 1220, 1245, 1270], 164) := by decide +kernel
theorem d_L_law_204 : decode m_L_law.2.1 204 = .ok (.aload_n 1, 1) := by decide +kernel
theorem d_L_law_205 : decode m_L_law.2.1 205 = .ok (.aload_n 0, 1) := by decide +kernel
theorem d_L_law_206 : decode m_L_law.2.1 206 = .ok (.iload 4, 2) := by decide +kernel
theorem d_L_law_208 : decode m_L_law.2.1 208 = .ok (.iconst 1, 1) := by decide +kernel
theorem d_L_law_209 : decode m_L_law.2.1 209 = .ok (.iadd, 1) := by decide +kernel
theorem d_L_law_210 : decode m_L_law.2.1 210 = .ok (.iaload, 1) := by decide +kernel
theorem d_L_law_211 : decode m_L_law.2.1 211 = .ok (.aload_n 0, 1) := by decide +kernel
theorem d_L_law_212 : decode m_L_law.2.1 212 = .ok (.iload 4, 2) := by decide +kernel
theorem d_L_law_214 : decode m_L_law.2.1 214 = .ok (.iconst 2, 1) := by decide +kernel
theorem d_L_law_215 : decode m_L_law.2.1 215 = .ok (.iadd, 1) := by decide +kernel
theorem d_L_law_216 : decode m_L_law.2.1 216 = .ok (.iaload, 1) := by decide +kernel
theorem d_L_law_217 : decode m_L_law.2.1 217 = .ok (.aload_n 0, 1) := by decide +kernel
theorem d_L_law_218 : decode m_L_law.2.1 218 = .ok (.iload 4, 2) := by decide +kernel
theorem d_L_law_220 : decode m_L_law.2.1 220 = .ok (.iconst 3, 1) := by decide +kernel
theorem d_L_law_221 : decode m_L_law.2.1 221 = .ok (.iadd, 1) := by decide +kernel
theorem d_L_law_222 : decode m_L_law.2.1 222 = .ok (.iaload, 1) := by decide +kernel
theorem d_L_law_223 : decode m_L_law.2.1 223 = .ok (.aload_n 0, 1) := by decide +kernel
theorem d_L_law_224 : decode m_L_law.2.1 224 = .ok (.iload 4, 2) := by decide +kernel
theorem d_L_law_226 : decode m_L_law.2.1 226 = .ok (.iconst 4, 1) := by decide +kernel
theorem d_L_law_227 : decode m_L_law.2.1 227 = .ok (.iadd, 1) := by decide +kernel
theorem d_L_law_228 : decode m_L_law.2.1 228 = .ok (.iaload, 1) := by decide +kernel
theorem d_L_law_229 : decode m_L_law.2.1 229 = .ok (.aload_n 0, 1) := by decide +kernel
theorem d_L_law_230 : decode m_L_law.2.1 230 = .ok (.iload 4, 2) := by decide +kernel
theorem d_L_law_232 : decode m_L_law.2.1 232 = .ok (.iconst 5, 1) := by decide +kernel
theorem d_L_law_233 : decode m_L_law.2.1 233 = .ok (.iadd, 1) := by decide +kernel
theorem d_L_law_234 : decode m_L_law.2.1 234 = .ok (.iaload, 1) := by decide +kernel
theorem d_L_law_235 : decode m_L_law.2.1 235 = .ok (.invokevirtual 22, 3) := by decide +kernel
theorem d_L_law_238 : decode m_L_law.2.1 238 = .ok (.aload_n 2, 1) := by decide +kernel
theorem d_L_law_239 : decode m_L_law.2.1 239 = .ok (.aload_n 0, 1) := by decide +kernel
theorem d_L_law_240 : decode m_L_law.2.1 240 = .ok (.iload 4, 2) := by decide +kernel
theorem d_L_law_242 : decode m_L_law.2.1 242 = .ok (.iconst 1, 1) := by decide +kernel
theorem d_L_law_243 : decode m_L_law.2.1 243 = .ok (.iadd, 1) := by decide +kernel
theorem d_L_law_244 : decode m_L_law.2.1 244 = .ok (.iaload, 1) := by decide +kernel
theorem d_L_law_245 : decode m_L_law.2.1 245 = .ok (.aload_n 0, 1) := by decide +kernel
theorem d_L_law_246 : decode m_L_law.2.1 246 = .ok (.iload 4, 2) := by decide +kernel
theorem d_L_law_248 : decode m_L_law.2.1 248 = .ok (.iconst 2, 1) := by decide +kernel
theorem d_L_law_249 : decode m_L_law.2.1 249 = .ok (.iadd, 1) := by decide +kernel
theorem d_L_law_250 : decode m_L_law.2.1 250 = .ok (.iaload, 1) := by decide +kernel
theorem d_L_law_251 : decode m_L_law.2.1 251 = .ok (.aload_n 0, 1) := by decide +kernel
theorem d_L_law_252 : decode m_L_law.2.1 252 = .ok (.iload 4, 2) := by decide +kernel
theorem d_L_law_254 : decode m_L_law.2.1 254 = .ok (.iconst 3, 1) := by decide +kernel
theorem d_L_law_255 : decode m_L_law.2.1 255 = .ok (.iadd, 1) := by decide +kernel
theorem d_L_law_256 : decode m_L_law.2.1 256 = .ok (.iaload, 1) := by decide +kernel
theorem d_L_law_257 : decode m_L_law.2.1 257 = .ok (.aload_n 0, 1) := by decide +kernel
theorem d_L_law_258 : decode m_L_law.2.1 258 = .ok (.iload 4, 2) := by decide +kernel
theorem d_L_law_260 : decode m_L_law.2.1 260 = .ok (.iconst 4, 1) := by decide +kernel
theorem d_L_law_261 : decode m_L_law.2.1 261 = .ok (.iadd, 1) := by decide +kernel
theorem d_L_law_262 : decode m_L_law.2.1 262 = .ok (.iaload, 1) := by decide +kernel
theorem d_L_law_263 : decode m_L_law.2.1 263 = .ok (.aload_n 0, 1) := by decide +kernel
theorem d_L_law_264 : decode m_L_law.2.1 264 = .ok (.iload 4, 2) := by decide +kernel
theorem d_L_law_266 : decode m_L_law.2.1 266 = .ok (.iconst 5, 1) := by decide +kernel
theorem d_L_law_267 : decode m_L_law.2.1 267 = .ok (.iadd, 1) := by decide +kernel
theorem d_L_law_268 : decode m_L_law.2.1 268 = .ok (.iaload, 1) := by decide +kernel
theorem d_L_law_269 : decode m_L_law.2.1 269 = .ok (.invokevirtual 26, 3) := by decide +kernel
theorem d_L_law_272 : decode m_L_law.2.1 272 = .ok (.if_icmp .eq 1063, 3) := by decide +kernel
theorem d_L_law_275 : decode m_L_law.2.1 275 = .ok (.iconst 0, 1) := by decide +kernel
theorem d_L_law_276 : decode m_L_law.2.1 276 = .ok (.ireturn, 1) := by decide +kernel
theorem d_L_law_277 : decode m_L_law.2.1 277 = .ok (.aload_n 1, 1) := by decide +kernel
theorem d_L_law_278 : decode m_L_law.2.1 278 = .ok (.aload_n 0, 1) := by decide +kernel
theorem d_L_law_279 : decode m_L_law.2.1 279 = .ok (.iload 4, 2) := by decide +kernel
theorem d_L_law_281 : decode m_L_law.2.1 281 = .ok (.iconst 1, 1) := by decide +kernel
theorem d_L_law_282 : decode m_L_law.2.1 282 = .ok (.iadd, 1) := by decide +kernel
theorem d_L_law_283 : decode m_L_law.2.1 283 = .ok (.iaload, 1) := by decide +kernel
theorem d_L_law_284 : decode m_L_law.2.1 284 = .ok (.invokevirtual 27, 3) := by decide +kernel
theorem d_L_law_287 : decode m_L_law.2.1 287 = .ok (.aload_n 2, 1) := by decide +kernel
theorem d_L_law_288 : decode m_L_law.2.1 288 = .ok (.aload_n 0, 1) := by decide +kernel
theorem d_L_law_289 : decode m_L_law.2.1 289 = .ok (.iload 4, 2) := by decide +kernel
theorem d_L_law_291 : decode m_L_law.2.1 291 = .ok (.iconst 1, 1) := by decide +kernel
theorem d_L_law_292 : decode m_L_law.2.1 292 = .ok (.iadd, 1) := by decide +kernel
theorem d_L_law_293 : decode m_L_law.2.1 293 = .ok (.iaload, 1) := by decide +kernel
theorem d_L_law_294 : decode m_L_law.2.1 294 = .ok (.invokevirtual 31, 3) := by decide +kernel
theorem d_L_law_297 : decode m_L_law.2.1 297 = .ok (.if_icmp .eq 1038, 3) := by decide +kernel
theorem d_L_law_300 : decode m_L_law.2.1 300 = .ok (.iconst 0, 1) := by decide +kernel
theorem d_L_law_301 : decode m_L_law.2.1 301 = .ok (.ireturn, 1) := by decide +kernel
theorem d_L_law_302 : decode m_L_law.2.1 302 = .ok (.aload_n 1, 1) := by decide +kernel
theorem d_L_law_303 : decode m_L_law.2.1 303 = .ok (.invokevirtual 32, 3) := by decide +kernel
theorem d_L_law_306 : decode m_L_law.2.1 306 = .ok (.aload_n 2, 1) := by decide +kernel
theorem d_L_law_307 : decode m_L_law.2.1 307 = .ok (.invokevirtual 36, 3) := by decide +kernel
theorem d_L_law_310 : decode m_L_law.2.1 310 = .ok (.if_icmp .eq 1025, 3) := by decide +kernel
theorem d_L_law_313 : decode m_L_law.2.1 313 = .ok (.iconst 0, 1) := by decide +kernel
theorem d_L_law_314 : decode m_L_law.2.1 314 = .ok (.ireturn, 1) := by decide +kernel
theorem d_L_law_315 : decode m_L_law.2.1 315 = .ok (.aload_n 1, 1) := by decide +kernel
theorem d_L_law_316 : decode m_L_law.2.1 316 = .ok (.invokevirtual 37, 3) := by decide +kernel
theorem d_L_law_319 : decode m_L_law.2.1 319 = .ok (.aload_n 2, 1) := by decide +kernel
theorem d_L_law_320 : decode m_L_law.2.1 320 = .ok (.invokevirtual 40, 3) := by decide +kernel
theorem d_L_law_323 : decode m_L_law.2.1 323 = .ok (.if_icmp .eq 1012, 3) := by decide +kernel
theorem d_L_law_326 : decode m_L_law.2.1 326 = .ok (.iconst 0, 1) := by decide +kernel
theorem d_L_law_327 : decode m_L_law.2.1 327 = .ok (.ireturn, 1) := by decide +kernel
theorem d_L_law_328 : decode m_L_law.2.1 328 = .ok (.aload_n 1, 1) := by decide +kernel
theorem d_L_law_329 : decode m_L_law.2.1 329 = .ok (.aload_n 0, 1) := by decide +kernel
theorem d_L_law_330 : decode m_L_law.2.1 330 = .ok (.iload 4, 2) := by decide +kernel
theorem d_L_law_332 : decode m_L_law.2.1 332 = .ok (.iconst 1, 1) := by decide +kernel
theorem d_L_law_333 : decode m_L_law.2.1 333 = .ok (.iadd, 1) := by decide +kernel
theorem d_L_law_334 : decode m_L_law.2.1 334 = .ok (.iaload, 1) := by decide +kernel
theorem d_L_law_335 : decode m_L_law.2.1 335 = .ok (.invokevirtual 41, 3) := by decide +kernel
theorem d_L_law_338 : decode m_L_law.2.1 338 = .ok (.aload_n 2, 1) := by decide +kernel
theorem d_L_law_339 : decode m_L_law.2.1 339 = .ok (.aload_n 0, 1) := by decide +kernel
theorem d_L_law_340 : decode m_L_law.2.1 340 = .ok (.iload 4, 2) := by decide +kernel
theorem d_L_law_342 : decode m_L_law.2.1 342 = .ok (.iconst 1, 1) := by decide +kernel
theorem d_L_law_343 : decode m_L_law.2.1 343 = .ok (.iadd, 1) := by decide +kernel
theorem d_L_law_344 : decode m_L_law.2.1 344 = .ok (.iaload, 1) := by decide +kernel
theorem d_L_law_345 : decode m_L_law.2.1 345 = .ok (.invokevirtual 45, 3) := by decide +kernel
theorem d_L_law_348 : decode m_L_law.2.1 348 = .ok (.if_icmp .eq 987, 3) := by decide +kernel
theorem d_L_law_351 : decode m_L_law.2.1 351 = .ok (.iconst 0, 1) := by decide +kernel
theorem d_L_law_352 : decode m_L_law.2.1 352 = .ok (.ireturn, 1) := by decide +kernel
theorem d_L_law_353 : decode m_L_law.2.1 353 = .ok (.aload_n 1, 1) := by decide +kernel
theorem d_L_law_354 : decode m_L_law.2.1 354 = .ok (.aload_n 0, 1) := by decide +kernel
theorem d_L_law_355 : decode m_L_law.2.1 355 = .ok (.iload 4, 2) := by decide +kernel
theorem d_L_law_357 : decode m_L_law.2.1 357 = .ok (.iconst 1, 1) := by decide +kernel
theorem d_L_law_358 : decode m_L_law.2.1 358 = .ok (.iadd, 1) := by decide +kernel
theorem d_L_law_359 : decode m_L_law.2.1 359 = .ok (.iaload, 1) := by decide +kernel
theorem d_L_law_360 : decode m_L_law.2.1 360 = .ok (.aload_n 0, 1) := by decide +kernel
theorem d_L_law_361 : decode m_L_law.2.1 361 = .ok (.iload 4, 2) := by decide +kernel
theorem d_L_law_363 : decode m_L_law.2.1 363 = .ok (.iconst 2, 1) := by decide +kernel
theorem d_L_law_364 : decode m_L_law.2.1 364 = .ok (.iadd, 1) := by decide +kernel
theorem d_L_law_365 : decode m_L_law.2.1 365 = .ok (.iaload, 1) := by decide +kernel
theorem d_L_law_366 : decode m_L_law.2.1 366 = .ok (.aload_n 3, 1) := by decide +kernel
theorem d_L_law_367 : decode m_L_law.2.1 367 = .ok (.invokestatic 46, 3) := by decide +kernel
theorem d_L_law_370 : decode m_L_law.2.1 370 = .ok (.istore 5, 2) := by decide +kernel
theorem d_L_law_372 : decode m_L_law.2.1 372 = .ok (.aload_n 2, 1) := by decide +kernel
theorem d_L_law_373 : decode m_L_law.2.1 373 = .ok (.aload_n 0, 1) := by decide +kernel
theorem d_L_law_374 : decode m_L_law.2.1 374 = .ok (.iload 4, 2) := by decide +kernel
theorem d_L_law_376 : decode m_L_law.2.1 376 = .ok (.iconst 1, 1) := by decide +kernel
theorem d_L_law_377 : decode m_L_law.2.1 377 = .ok (.iadd, 1) := by decide +kernel
theorem d_L_law_378 : decode m_L_law.2.1 378 = .ok (.iaload, 1) := by decide +kernel
theorem d_L_law_379 : decode m_L_law.2.1 379 = .ok (.aload_n 0, 1) := by decide +kernel
theorem d_L_law_380 : decode m_L_law.2.1 380 = .ok (.iload 4, 2) := by decide +kernel
theorem d_L_law_382 : decode m_L_law.2.1 382 = .ok (.iconst 2, 1) := by decide +kernel
theorem d_L_law_383 : decode m_L_law.2.1 383 = .ok (.iadd, 1) := by decide +kernel
theorem d_L_law_384 : decode m_L_law.2.1 384 = .ok (.iaload, 1) := by decide +kernel
theorem d_L_law_385 : decode m_L_law.2.1 385 = .ok (.invokevirtual 51, 3) := by decide +kernel
theorem d_L_law_388 : decode m_L_law.2.1 388 = .ok (.istore 6, 2) := by decide +kernel
theorem d_L_law_390 : decode m_L_law.2.1 390 = .ok (.aload_n 2, 1) := by decide +kernel
theorem d_L_law_391 : decode m_L_law.2.1 391 = .ok (.invokevirtual 52, 3) := by decide +kernel
theorem d_L_law_394 : decode m_L_law.2.1 394 = .ok (.iload 5, 2) := by decide +kernel
theorem d_L_law_396 : decode m_L_law.2.1 396 = .ok (.if_icmp .eq 5, 3) := by decide +kernel
theorem d_L_law_399 : decode m_L_law.2.1 399 = .ok (.iconst 0, 1) := by decide +kernel
theorem d_L_law_400 : decode m_L_law.2.1 400 = .ok (.ireturn, 1) := by decide +kernel
theorem d_L_law_401 : decode m_L_law.2.1 401 = .ok (.iload 5, 2) := by decide +kernel
theorem d_L_law_403 : decode m_L_law.2.1 403 = .ok (.ifCond .ne 15, 3) := by decide +kernel
theorem d_L_law_406 : decode m_L_law.2.1 406 = .ok (.aload_n 3, 1) := by decide +kernel
theorem d_L_law_407 : decode m_L_law.2.1 407 = .ok (.iconst 0, 1) := by decide +kernel
theorem d_L_law_408 : decode m_L_law.2.1 408 = .ok (.laload, 1) := by decide +kernel
theorem d_L_law_409 : decode m_L_law.2.1 409 = .ok (.iload 6, 2) := by decide +kernel
theorem d_L_law_411 : decode m_L_law.2.1 411 = .ok (.i2l, 1) := by decide +kernel
theorem d_L_law_412 : decode m_L_law.2.1 412 = .ok (.lcmp, 1) := by decide +kernel
theorem d_L_law_413 : decode m_L_law.2.1 413 = .ok (.ifCond .eq 5, 3) := by decide +kernel
theorem d_L_law_416 : decode m_L_law.2.1 416 = .ok (.iconst 0, 1) := by decide +kernel
theorem d_L_law_417 : decode m_L_law.2.1 417 = .ok (.ireturn, 1) := by decide +kernel
theorem d_L_law_418 : decode m_L_law.2.1 418 = .ok (.goto 917, 3) := by decide +kernel
theorem d_L_law_421 : decode m_L_law.2.1 421 = .ok (.aload_n 1, 1) := by decide +kernel
theorem d_L_law_422 : decode m_L_law.2.1 422 = .ok (.aload_n 0, 1) := by decide +kernel
theorem d_L_law_423 : decode m_L_law.2.1 423 = .ok (.iload 4, 2) := by decide +kernel
theorem d_L_law_425 : decode m_L_law.2.1 425 = .ok (.iconst 1, 1) := by decide +kernel
theorem d_L_law_426 : decode m_L_law.2.1 426 = .ok (.iadd, 1) := by decide +kernel
theorem d_L_law_427 : decode m_L_law.2.1 427 = .ok (.iaload, 1) := by decide +kernel
theorem d_L_law_428 : decode m_L_law.2.1 428 = .ok (.aload_n 0, 1) := by decide +kernel
theorem d_L_law_429 : decode m_L_law.2.1 429 = .ok (.iload 4, 2) := by decide +kernel
theorem d_L_law_431 : decode m_L_law.2.1 431 = .ok (.iconst 2, 1) := by decide +kernel
theorem d_L_law_432 : decode m_L_law.2.1 432 = .ok (.iadd, 1) := by decide +kernel
theorem d_L_law_433 : decode m_L_law.2.1 433 = .ok (.iaload, 1) := by decide +kernel
theorem d_L_law_434 : decode m_L_law.2.1 434 = .ok (.invokevirtual 55, 3) := by decide +kernel
theorem d_L_law_437 : decode m_L_law.2.1 437 = .ok (.aload_n 2, 1) := by decide +kernel
theorem d_L_law_438 : decode m_L_law.2.1 438 = .ok (.aload_n 0, 1) := by decide +kernel
theorem d_L_law_439 : decode m_L_law.2.1 439 = .ok (.iload 4, 2) := by decide +kernel
theorem d_L_law_441 : decode m_L_law.2.1 441 = .ok (.iconst 1, 1) := by decide +kernel
theorem d_L_law_442 : decode m_L_law.2.1 442 = .ok (.iadd, 1) := by decide +kernel
theorem d_L_law_443 : decode m_L_law.2.1 443 = .ok (.iaload, 1) := by decide +kernel
theorem d_L_law_444 : decode m_L_law.2.1 444 = .ok (.aload_n 0, 1) := by decide +kernel
theorem d_L_law_445 : decode m_L_law.2.1 445 = .ok (.iload 4, 2) := by decide +kernel
theorem d_L_law_447 : decode m_L_law.2.1 447 = .ok (.iconst 2, 1) := by decide +kernel
theorem d_L_law_448 : decode m_L_law.2.1 448 = .ok (.iadd, 1) := by decide +kernel
theorem d_L_law_449 : decode m_L_law.2.1 449 = .ok (.iaload, 1) := by decide +kernel
theorem d_L_law_450 : decode m_L_law.2.1 450 = .ok (.invokevirtual 58, 3) := by decide +kernel
theorem d_L_law_453 : decode m_L_law.2.1 453 = .ok (.if_icmp .eq 882, 3) := by decide +kernel
theorem d_L_law_456 : decode m_L_law.2.1 456 = .ok (.iconst 0, 1) := by decide +kernel
theorem d_L_law_457 : decode m_L_law.2.1 457 = .ok (.ireturn, 1) := by decide +kernel
theorem d_L_law_458 : decode m_L_law.2.1 458 = .ok (.aload_n 1, 1) := by decide +kernel
theorem d_L_law_459 : decode m_L_law.2.1 459 = .ok (.aload_n 0, 1) := by decide +kernel
theorem d_L_law_460 : decode m_L_law.2.1 460 = .ok (.iload 4, 2) := by decide +kernel
theorem d_L_law_462 : decode m_L_law.2.1 462 = .ok (.iconst 1, 1) := by decide +kernel
theorem d_L_law_463 : decode m_L_law.2.1 463 = .ok (.iadd, 1) := by decide +kernel
theorem d_L_law_464 : decode m_L_law.2.1 464 = .ok (.iaload, 1) := by decide +kernel
theorem d_L_law_465 : decode m_L_law.2.1 465 = .ok (.aload_n 0, 1) := by decide +kernel
theorem d_L_law_466 : decode m_L_law.2.1 466 = .ok (.iload 4, 2) := by decide +kernel
theorem d_L_law_468 : decode m_L_law.2.1 468 = .ok (.iconst 2, 1) := by decide +kernel
theorem d_L_law_469 : decode m_L_law.2.1 469 = .ok (.iadd, 1) := by decide +kernel
theorem d_L_law_470 : decode m_L_law.2.1 470 = .ok (.iaload, 1) := by decide +kernel
theorem d_L_law_471 : decode m_L_law.2.1 471 = .ok (.invokevirtual 59, 3) := by decide +kernel
theorem d_L_law_474 : decode m_L_law.2.1 474 = .ok (.aload_n 2, 1) := by decide +kernel
theorem d_L_law_475 : decode m_L_law.2.1 475 = .ok (.aload_n 0, 1) := by decide +kernel
theorem d_L_law_476 : decode m_L_law.2.1 476 = .ok (.iload 4, 2) := by decide +kernel
theorem d_L_law_478 : decode m_L_law.2.1 478 = .ok (.iconst 1, 1) := by decide +kernel
theorem d_L_law_479 : decode m_L_law.2.1 479 = .ok (.iadd, 1) := by decide +kernel
theorem d_L_law_480 : decode m_L_law.2.1 480 = .ok (.iaload, 1) := by decide +kernel
theorem d_L_law_481 : decode m_L_law.2.1 481 = .ok (.aload_n 0, 1) := by decide +kernel
theorem d_L_law_482 : decode m_L_law.2.1 482 = .ok (.iload 4, 2) := by decide +kernel
theorem d_L_law_484 : decode m_L_law.2.1 484 = .ok (.iconst 2, 1) := by decide +kernel
theorem d_L_law_485 : decode m_L_law.2.1 485 = .ok (.iadd, 1) := by decide +kernel
theorem d_L_law_486 : decode m_L_law.2.1 486 = .ok (.iaload, 1) := by decide +kernel
theorem d_L_law_487 : decode m_L_law.2.1 487 = .ok (.invokevirtual 62, 3) := by decide +kernel
theorem d_L_law_490 : decode m_L_law.2.1 490 = .ok (.if_icmp .eq 845, 3) := by decide +kernel
theorem d_L_law_493 : decode m_L_law.2.1 493 = .ok (.iconst 0, 1) := by decide +kernel
theorem d_L_law_494 : decode m_L_law.2.1 494 = .ok (.ireturn, 1) := by decide +kernel
theorem d_L_law_495 : decode m_L_law.2.1 495 = .ok (.aload_n 1, 1) := by decide +kernel
theorem d_L_law_496 : decode m_L_law.2.1 496 = .ok (.aload_n 0, 1) := by decide +kernel
theorem d_L_law_497 : decode m_L_law.2.1 497 = .ok (.iload 4, 2) := by decide +kernel
theorem d_L_law_499 : decode m_L_law.2.1 499 = .ok (.iconst 1, 1) := by decide +kernel
theorem d_L_law_500 : decode m_L_law.2.1 500 = .ok (.iadd, 1) := by decide +kernel
theorem d_L_law_501 : decode m_L_law.2.1 501 = .ok (.iaload, 1) := by decide +kernel
theorem d_L_law_502 : decode m_L_law.2.1 502 = .ok (.invokevirtual 63, 3) := by decide +kernel
theorem d_L_law_505 : decode m_L_law.2.1 505 = .ok (.aload_n 2, 1) := by decide +kernel
theorem d_L_law_506 : decode m_L_law.2.1 506 = .ok (.aload_n 0, 1) := by decide +kernel
theorem d_L_law_507 : decode m_L_law.2.1 507 = .ok (.iload 4, 2) := by decide +kernel
theorem d_L_law_509 : decode m_L_law.2.1 509 = .ok (.iconst 1, 1) := by decide +kernel
theorem d_L_law_510 : decode m_L_law.2.1 510 = .ok (.iadd, 1) := by decide +kernel
theorem d_L_law_511 : decode m_L_law.2.1 511 = .ok (.iaload, 1) := by decide +kernel
theorem d_L_law_512 : decode m_L_law.2.1 512 = .ok (.invokevirtual 66, 3) := by decide +kernel
theorem d_L_law_515 : decode m_L_law.2.1 515 = .ok (.if_icmp .eq 820, 3) := by decide +kernel
theorem d_L_law_518 : decode m_L_law.2.1 518 = .ok (.iconst 0, 1) := by decide +kernel
theorem d_L_law_519 : decode m_L_law.2.1 519 = .ok (.ireturn, 1) := by decide +kernel
theorem d_L_law_520 : decode m_L_law.2.1 520 = .ok (.aload_n 1, 1) := by decide +kernel
theorem d_L_law_521 : decode m_L_law.2.1 521 = .ok (.invokevirtual 67, 3) := by decide +kernel
theorem d_L_law_524 : decode m_L_law.2.1 524 = .ok (.aload_n 2, 1) := by decide +kernel
theorem d_L_law_525 : decode m_L_law.2.1 525 = .ok (.invokevirtual 70, 3) := by decide +kernel
theorem d_L_law_528 : decode m_L_law.2.1 528 = .ok (.if_icmp .eq 807, 3) := by decide +kernel
theorem d_L_law_531 : decode m_L_law.2.1 531 = .ok (.iconst 0, 1) := by decide +kernel
theorem d_L_law_532 : decode m_L_law.2.1 532 = .ok (.ireturn, 1) := by decide +kernel
theorem d_L_law_533 : decode m_L_law.2.1 533 = .ok (.aload_n 1, 1) := by decide +kernel
theorem d_L_law_534 : decode m_L_law.2.1 534 = .ok (.invokevirtual 71, 3) := by decide +kernel
theorem d_L_law_537 : decode m_L_law.2.1 537 = .ok (.aload_n 2, 1) := by decide +kernel
theorem d_L_law_538 : decode m_L_law.2.1 538 = .ok (.invokevirtual 74, 3) := by decide +kernel
theorem d_L_law_541 : decode m_L_law.2.1 541 = .ok (.if_icmp .eq 794, 3) := by decide +kernel
theorem d_L_law_544 : decode m_L_law.2.1 544 = .ok (.iconst 0, 1) := by decide +kernel
theorem d_L_law_545 : decode m_L_law.2.1 545 = .ok (.ireturn, 1) := by decide +kernel
theorem d_L_law_546 : decode m_L_law.2.1 546 = .ok (.aload_n 1, 1) := by decide +kernel
theorem d_L_law_547 : decode m_L_law.2.1 547 = .ok (.invokevirtual 75, 3) := by decide +kernel
theorem d_L_law_550 : decode m_L_law.2.1 550 = .ok (.aload_n 2, 1) := by decide +kernel
theorem d_L_law_551 : decode m_L_law.2.1 551 = .ok (.invokevirtual 78, 3) := by decide +kernel
theorem d_L_law_554 : decode m_L_law.2.1 554 = .ok (.if_icmp .eq 781, 3) := by decide +kernel
theorem d_L_law_557 : decode m_L_law.2.1 557 = .ok (.iconst 0, 1) := by decide +kernel
theorem d_L_law_558 : decode m_L_law.2.1 558 = .ok (.ireturn, 1) := by decide +kernel
theorem d_L_law_559 : decode m_L_law.2.1 559 = .ok (.aload_n 1, 1) := by decide +kernel
theorem d_L_law_560 : decode m_L_law.2.1 560 = .ok (.aload_n 0, 1) := by decide +kernel
theorem d_L_law_561 : decode m_L_law.2.1 561 = .ok (.iload 4, 2) := by decide +kernel
theorem d_L_law_563 : decode m_L_law.2.1 563 = .ok (.iconst 1, 1) := by decide +kernel
theorem d_L_law_564 : decode m_L_law.2.1 564 = .ok (.iadd, 1) := by decide +kernel
theorem d_L_law_565 : decode m_L_law.2.1 565 = .ok (.iaload, 1) := by decide +kernel
theorem d_L_law_566 : decode m_L_law.2.1 566 = .ok (.aload_n 0, 1) := by decide +kernel
theorem d_L_law_567 : decode m_L_law.2.1 567 = .ok (.iload 4, 2) := by decide +kernel
theorem d_L_law_569 : decode m_L_law.2.1 569 = .ok (.iconst 2, 1) := by decide +kernel
theorem d_L_law_570 : decode m_L_law.2.1 570 = .ok (.iadd, 1) := by decide +kernel
theorem d_L_law_571 : decode m_L_law.2.1 571 = .ok (.iaload, 1) := by decide +kernel
theorem d_L_law_572 : decode m_L_law.2.1 572 = .ok (.aload_n 3, 1) := by decide +kernel
theorem d_L_law_573 : decode m_L_law.2.1 573 = .ok (.invokestatic 79, 3) := by decide +kernel
theorem d_L_law_576 : decode m_L_law.2.1 576 = .ok (.istore 5, 2) := by decide +kernel
theorem d_L_law_578 : decode m_L_law.2.1 578 = .ok (.aload_n 2, 1) := by decide +kernel
theorem d_L_law_579 : decode m_L_law.2.1 579 = .ok (.aload_n 0, 1) := by decide +kernel
theorem d_L_law_580 : decode m_L_law.2.1 580 = .ok (.iload 4, 2) := by decide +kernel
theorem d_L_law_582 : decode m_L_law.2.1 582 = .ok (.iconst 1, 1) := by decide +kernel
theorem d_L_law_583 : decode m_L_law.2.1 583 = .ok (.iadd, 1) := by decide +kernel
theorem d_L_law_584 : decode m_L_law.2.1 584 = .ok (.iaload, 1) := by decide +kernel
theorem d_L_law_585 : decode m_L_law.2.1 585 = .ok (.aload_n 0, 1) := by decide +kernel
theorem d_L_law_586 : decode m_L_law.2.1 586 = .ok (.iload 4, 2) := by decide +kernel
theorem d_L_law_588 : decode m_L_law.2.1 588 = .ok (.iconst 2, 1) := by decide +kernel
theorem d_L_law_589 : decode m_L_law.2.1 589 = .ok (.iadd, 1) := by decide +kernel
theorem d_L_law_590 : decode m_L_law.2.1 590 = .ok (.iaload, 1) := by decide +kernel
theorem d_L_law_591 : decode m_L_law.2.1 591 = .ok (.invokevirtual 81, 3) := by decide +kernel
theorem d_L_law_594 : decode m_L_law.2.1 594 = .ok (.istore 6, 2) := by decide +kernel
theorem d_L_law_596 : decode m_L_law.2.1 596 = .ok (.aload_n 2, 1) := by decide +kernel
theorem d_L_law_597 : decode m_L_law.2.1 597 = .ok (.invokevirtual 52, 3) := by decide +kernel
theorem d_L_law_600 : decode m_L_law.2.1 600 = .ok (.iload 5, 2) := by decide +kernel
theorem d_L_law_602 : decode m_L_law.2.1 602 = .ok (.if_icmp .eq 5, 3) := by decide +kernel
theorem d_L_law_605 : decode m_L_law.2.1 605 = .ok (.iconst 0, 1) := by decide +kernel
theorem d_L_law_606 : decode m_L_law.2.1 606 = .ok (.ireturn, 1) := by decide +kernel
theorem d_L_law_607 : decode m_L_law.2.1 607 = .ok (.iload 5, 2) := by decide +kernel
theorem d_L_law_609 : decode m_L_law.2.1 609 = .ok (.ifCond .ne 15, 3) := by decide +kernel
theorem d_L_law_612 : decode m_L_law.2.1 612 = .ok (.aload_n 3, 1) := by decide +kernel
theorem d_L_law_613 : decode m_L_law.2.1 613 = .ok (.iconst 0, 1) := by decide +kernel
theorem d_L_law_614 : decode m_L_law.2.1 614 = .ok (.laload, 1) := by decide +kernel
theorem d_L_law_615 : decode m_L_law.2.1 615 = .ok (.iload 6, 2) := by decide +kernel
theorem d_L_law_617 : decode m_L_law.2.1 617 = .ok (.i2l, 1) := by decide +kernel
theorem d_L_law_618 : decode m_L_law.2.1 618 = .ok (.lcmp, 1) := by decide +kernel
theorem d_L_law_619 : decode m_L_law.2.1 619 = .ok (.ifCond .eq 5, 3) := by decide +kernel
theorem d_L_law_622 : decode m_L_law.2.1 622 = .ok (.iconst 0, 1) := by decide +kernel
theorem d_L_law_623 : decode m_L_law.2.1 623 = .ok (.ireturn, 1) := by decide +kernel
theorem d_L_law_624 : decode m_L_law.2.1 624 = .ok (.goto 711, 3) := by decide +kernel
theorem d_L_law_627 : decode m_L_law.2.1 627 = .ok (.aload_n 1, 1) := by decide +kernel
theorem d_L_law_628 : decode m_L_law.2.1 628 = .ok (.invokevirtual 82, 3) := by decide +kernel
theorem d_L_law_631 : decode m_L_law.2.1 631 = .ok (.aload_n 2, 1) := by decide +kernel
theorem d_L_law_632 : decode m_L_law.2.1 632 = .ok (.invokevirtual 85, 3) := by decide +kernel
theorem d_L_law_635 : decode m_L_law.2.1 635 = .ok (.if_icmp .eq 700, 3) := by decide +kernel
theorem d_L_law_638 : decode m_L_law.2.1 638 = .ok (.iconst 0, 1) := by decide +kernel
theorem d_L_law_639 : decode m_L_law.2.1 639 = .ok (.ireturn, 1) := by decide +kernel
theorem d_L_law_640 : decode m_L_law.2.1 640 = .ok (.aload_n 1, 1) := by decide +kernel
theorem d_L_law_641 : decode m_L_law.2.1 641 = .ok (.aload_n 0, 1) := by decide +kernel
theorem d_L_law_642 : decode m_L_law.2.1 642 = .ok (.iload 4, 2) := by decide +kernel
theorem d_L_law_644 : decode m_L_law.2.1 644 = .ok (.iconst 1, 1) := by decide +kernel
theorem d_L_law_645 : decode m_L_law.2.1 645 = .ok (.iadd, 1) := by decide +kernel
theorem d_L_law_646 : decode m_L_law.2.1 646 = .ok (.iaload, 1) := by decide +kernel
theorem d_L_law_647 : decode m_L_law.2.1 647 = .ok (.aload_n 0, 1) := by decide +kernel
theorem d_L_law_648 : decode m_L_law.2.1 648 = .ok (.iload 4, 2) := by decide +kernel
theorem d_L_law_650 : decode m_L_law.2.1 650 = .ok (.iconst 2, 1) := by decide +kernel
theorem d_L_law_651 : decode m_L_law.2.1 651 = .ok (.iadd, 1) := by decide +kernel
theorem d_L_law_652 : decode m_L_law.2.1 652 = .ok (.iaload, 1) := by decide +kernel
theorem d_L_law_653 : decode m_L_law.2.1 653 = .ok (.invokevirtual 86, 3) := by decide +kernel
theorem d_L_law_656 : decode m_L_law.2.1 656 = .ok (.aload_n 2, 1) := by decide +kernel
theorem d_L_law_657 : decode m_L_law.2.1 657 = .ok (.aload_n 0, 1) := by decide +kernel
theorem d_L_law_658 : decode m_L_law.2.1 658 = .ok (.iload 4, 2) := by decide +kernel
theorem d_L_law_660 : decode m_L_law.2.1 660 = .ok (.iconst 1, 1) := by decide +kernel
theorem d_L_law_661 : decode m_L_law.2.1 661 = .ok (.iadd, 1) := by decide +kernel
theorem d_L_law_662 : decode m_L_law.2.1 662 = .ok (.iaload, 1) := by decide +kernel
theorem d_L_law_663 : decode m_L_law.2.1 663 = .ok (.aload_n 0, 1) := by decide +kernel
theorem d_L_law_664 : decode m_L_law.2.1 664 = .ok (.iload 4, 2) := by decide +kernel
theorem d_L_law_666 : decode m_L_law.2.1 666 = .ok (.iconst 2, 1) := by decide +kernel
theorem d_L_law_667 : decode m_L_law.2.1 667 = .ok (.iadd, 1) := by decide +kernel
theorem d_L_law_668 : decode m_L_law.2.1 668 = .ok (.iaload, 1) := by decide +kernel
theorem d_L_law_669 : decode m_L_law.2.1 669 = .ok (.invokevirtual 89, 3) := by decide +kernel
theorem d_L_law_672 : decode m_L_law.2.1 672 = .ok (.if_icmp .eq 663, 3) := by decide +kernel
theorem d_L_law_675 : decode m_L_law.2.1 675 = .ok (.iconst 0, 1) := by decide +kernel
theorem d_L_law_676 : decode m_L_law.2.1 676 = .ok (.ireturn, 1) := by decide +kernel
theorem d_L_law_677 : decode m_L_law.2.1 677 = .ok (.aload_n 1, 1) := by decide +kernel
theorem d_L_law_678 : decode m_L_law.2.1 678 = .ok (.aload_n 0, 1) := by decide +kernel
theorem d_L_law_679 : decode m_L_law.2.1 679 = .ok (.iload 4, 2) := by decide +kernel
theorem d_L_law_681 : decode m_L_law.2.1 681 = .ok (.iconst 1, 1) := by decide +kernel
theorem d_L_law_682 : decode m_L_law.2.1 682 = .ok (.iadd, 1) := by decide +kernel
theorem d_L_law_683 : decode m_L_law.2.1 683 = .ok (.iaload, 1) := by decide +kernel
theorem d_L_law_684 : decode m_L_law.2.1 684 = .ok (.aload_n 0, 1) := by decide +kernel
theorem d_L_law_685 : decode m_L_law.2.1 685 = .ok (.iload 4, 2) := by decide +kernel
theorem d_L_law_687 : decode m_L_law.2.1 687 = .ok (.iconst 2, 1) := by decide +kernel
theorem d_L_law_688 : decode m_L_law.2.1 688 = .ok (.iadd, 1) := by decide +kernel
theorem d_L_law_689 : decode m_L_law.2.1 689 = .ok (.iaload, 1) := by decide +kernel
theorem d_L_law_690 : decode m_L_law.2.1 690 = .ok (.invokevirtual 90, 3) := by decide +kernel
theorem d_L_law_693 : decode m_L_law.2.1 693 = .ok (.aload_n 2, 1) := by decide +kernel
theorem d_L_law_694 : decode m_L_law.2.1 694 = .ok (.aload_n 0, 1) := by decide +kernel
theorem d_L_law_695 : decode m_L_law.2.1 695 = .ok (.iload 4, 2) := by decide +kernel
theorem d_L_law_697 : decode m_L_law.2.1 697 = .ok (.iconst 1, 1) := by decide +kernel
theorem d_L_law_698 : decode m_L_law.2.1 698 = .ok (.iadd, 1) := by decide +kernel
theorem d_L_law_699 : decode m_L_law.2.1 699 = .ok (.iaload, 1) := by decide +kernel
theorem d_L_law_700 : decode m_L_law.2.1 700 = .ok (.aload_n 0, 1) := by decide +kernel
theorem d_L_law_701 : decode m_L_law.2.1 701 = .ok (.iload 4, 2) := by decide +kernel
theorem d_L_law_703 : decode m_L_law.2.1 703 = .ok (.iconst 2, 1) := by decide +kernel
theorem d_L_law_704 : decode m_L_law.2.1 704 = .ok (.iadd, 1) := by decide +kernel
theorem d_L_law_705 : decode m_L_law.2.1 705 = .ok (.iaload, 1) := by decide +kernel
theorem d_L_law_706 : decode m_L_law.2.1 706 = .ok (.invokevirtual 93, 3) := by decide +kernel
theorem d_L_law_709 : decode m_L_law.2.1 709 = .ok (.if_icmp .eq 626, 3) := by decide +kernel
theorem d_L_law_712 : decode m_L_law.2.1 712 = .ok (.iconst 0, 1) := by decide +kernel
theorem d_L_law_713 : decode m_L_law.2.1 713 = .ok (.ireturn, 1) := by decide +kernel
theorem d_L_law_714 : decode m_L_law.2.1 714 = .ok (.aload_n 1, 1) := by decide +kernel
theorem d_L_law_715 : decode m_L_law.2.1 715 = .ok (.aload_n 0, 1) := by decide +kernel
theorem d_L_law_716 : decode m_L_law.2.1 716 = .ok (.iload 4, 2) := by decide +kernel
theorem d_L_law_718 : decode m_L_law.2.1 718 = .ok (.iconst 1, 1) := by decide +kernel
theorem d_L_law_719 : decode m_L_law.2.1 719 = .ok (.iadd, 1) := by decide +kernel
theorem d_L_law_720 : decode m_L_law.2.1 720 = .ok (.iaload, 1) := by decide +kernel
theorem d_L_law_721 : decode m_L_law.2.1 721 = .ok (.aload_n 0, 1) := by decide +kernel
theorem d_L_law_722 : decode m_L_law.2.1 722 = .ok (.iload 4, 2) := by decide +kernel
theorem d_L_law_724 : decode m_L_law.2.1 724 = .ok (.iconst 2, 1) := by decide +kernel
theorem d_L_law_725 : decode m_L_law.2.1 725 = .ok (.iadd, 1) := by decide +kernel
theorem d_L_law_726 : decode m_L_law.2.1 726 = .ok (.iaload, 1) := by decide +kernel
theorem d_L_law_727 : decode m_L_law.2.1 727 = .ok (.aload_n 0, 1) := by decide +kernel
theorem d_L_law_728 : decode m_L_law.2.1 728 = .ok (.iload 4, 2) := by decide +kernel
theorem d_L_law_730 : decode m_L_law.2.1 730 = .ok (.iconst 3, 1) := by decide +kernel
theorem d_L_law_731 : decode m_L_law.2.1 731 = .ok (.iadd, 1) := by decide +kernel
theorem d_L_law_732 : decode m_L_law.2.1 732 = .ok (.iaload, 1) := by decide +kernel
theorem d_L_law_733 : decode m_L_law.2.1 733 = .ok (.invokevirtual 94, 3) := by decide +kernel
theorem d_L_law_736 : decode m_L_law.2.1 736 = .ok (.aload_n 2, 1) := by decide +kernel
theorem d_L_law_737 : decode m_L_law.2.1 737 = .ok (.aload_n 0, 1) := by decide +kernel
theorem d_L_law_738 : decode m_L_law.2.1 738 = .ok (.iload 4, 2) := by decide +kernel
theorem d_L_law_740 : decode m_L_law.2.1 740 = .ok (.iconst 1, 1) := by decide +kernel
theorem d_L_law_741 : decode m_L_law.2.1 741 = .ok (.iadd, 1) := by decide +kernel
theorem d_L_law_742 : decode m_L_law.2.1 742 = .ok (.iaload, 1) := by decide +kernel
theorem d_L_law_743 : decode m_L_law.2.1 743 = .ok (.aload_n 0, 1) := by decide +kernel
theorem d_L_law_744 : decode m_L_law.2.1 744 = .ok (.iload 4, 2) := by decide +kernel
theorem d_L_law_746 : decode m_L_law.2.1 746 = .ok (.iconst 2, 1) := by decide +kernel
theorem d_L_law_747 : decode m_L_law.2.1 747 = .ok (.iadd, 1) := by decide +kernel
theorem d_L_law_748 : decode m_L_law.2.1 748 = .ok (.iaload, 1) := by decide +kernel
theorem d_L_law_749 : decode m_L_law.2.1 749 = .ok (.aload_n 0, 1) := by decide +kernel
theorem d_L_law_750 : decode m_L_law.2.1 750 = .ok (.iload 4, 2) := by decide +kernel
theorem d_L_law_752 : decode m_L_law.2.1 752 = .ok (.iconst 3, 1) := by decide +kernel
theorem d_L_law_753 : decode m_L_law.2.1 753 = .ok (.iadd, 1) := by decide +kernel
theorem d_L_law_754 : decode m_L_law.2.1 754 = .ok (.iaload, 1) := by decide +kernel
theorem d_L_law_755 : decode m_L_law.2.1 755 = .ok (.invokevirtual 98, 3) := by decide +kernel
theorem d_L_law_758 : decode m_L_law.2.1 758 = .ok (.if_icmp .eq 577, 3) := by decide +kernel
theorem d_L_law_761 : decode m_L_law.2.1 761 = .ok (.iconst 0, 1) := by decide +kernel
theorem d_L_law_762 : decode m_L_law.2.1 762 = .ok (.ireturn, 1) := by decide +kernel
theorem d_L_law_763 : decode m_L_law.2.1 763 = .ok (.aload_n 1, 1) := by decide +kernel
theorem d_L_law_764 : decode m_L_law.2.1 764 = .ok (.invokevirtual 99, 3) := by decide +kernel
theorem d_L_law_767 : decode m_L_law.2.1 767 = .ok (.aload_n 2, 1) := by decide +kernel
theorem d_L_law_768 : decode m_L_law.2.1 768 = .ok (.invokevirtual 102, 3) := by decide +kernel
theorem d_L_law_771 : decode m_L_law.2.1 771 = .ok (.if_icmp .eq 564, 3) := by decide +kernel
theorem d_L_law_774 : decode m_L_law.2.1 774 = .ok (.iconst 0, 1) := by decide +kernel
theorem d_L_law_775 : decode m_L_law.2.1 775 = .ok (.ireturn, 1) := by decide +kernel
theorem d_L_law_776 : decode m_L_law.2.1 776 = .ok (.aload_n 1, 1) := by decide +kernel
theorem d_L_law_777 : decode m_L_law.2.1 777 = .ok (.aload_n 0, 1) := by decide +kernel
theorem d_L_law_778 : decode m_L_law.2.1 778 = .ok (.iload 4, 2) := by decide +kernel
theorem d_L_law_780 : decode m_L_law.2.1 780 = .ok (.iconst 1, 1) := by decide +kernel
theorem d_L_law_781 : decode m_L_law.2.1 781 = .ok (.iadd, 1) := by decide +kernel
theorem d_L_law_782 : decode m_L_law.2.1 782 = .ok (.iaload, 1) := by decide +kernel
theorem d_L_law_783 : decode m_L_law.2.1 783 = .ok (.invokevirtual 103, 3) := by decide +kernel
theorem d_L_law_786 : decode m_L_law.2.1 786 = .ok (.aload_n 2, 1) := by decide +kernel
theorem d_L_law_787 : decode m_L_law.2.1 787 = .ok (.aload_n 0, 1) := by decide +kernel
theorem d_L_law_788 : decode m_L_law.2.1 788 = .ok (.iload 4, 2) := by decide +kernel
theorem d_L_law_790 : decode m_L_law.2.1 790 = .ok (.iconst 1, 1) := by decide +kernel
theorem d_L_law_791 : decode m_L_law.2.1 791 = .ok (.iadd, 1) := by decide +kernel
theorem d_L_law_792 : decode m_L_law.2.1 792 = .ok (.iaload, 1) := by decide +kernel
theorem d_L_law_793 : decode m_L_law.2.1 793 = .ok (.invokevirtual 106, 3) := by decide +kernel
theorem d_L_law_796 : decode m_L_law.2.1 796 = .ok (.if_icmp .eq 539, 3) := by decide +kernel
theorem d_L_law_799 : decode m_L_law.2.1 799 = .ok (.iconst 0, 1) := by decide +kernel
theorem d_L_law_800 : decode m_L_law.2.1 800 = .ok (.ireturn, 1) := by decide +kernel
theorem d_L_law_801 : decode m_L_law.2.1 801 = .ok (.aload_n 1, 1) := by decide +kernel
theorem d_L_law_802 : decode m_L_law.2.1 802 = .ok (.aload_n 0, 1) := by decide +kernel
theorem d_L_law_803 : decode m_L_law.2.1 803 = .ok (.iload 4, 2) := by decide +kernel
theorem d_L_law_805 : decode m_L_law.2.1 805 = .ok (.iconst 1, 1) := by decide +kernel
theorem d_L_law_806 : decode m_L_law.2.1 806 = .ok (.iadd, 1) := by decide +kernel
theorem d_L_law_807 : decode m_L_law.2.1 807 = .ok (.iaload, 1) := by decide +kernel
theorem d_L_law_808 : decode m_L_law.2.1 808 = .ok (.aload_n 0, 1) := by decide +kernel
theorem d_L_law_809 : decode m_L_law.2.1 809 = .ok (.iload 4, 2) := by decide +kernel
theorem d_L_law_811 : decode m_L_law.2.1 811 = .ok (.iconst 2, 1) := by decide +kernel
theorem d_L_law_812 : decode m_L_law.2.1 812 = .ok (.iadd, 1) := by decide +kernel
theorem d_L_law_813 : decode m_L_law.2.1 813 = .ok (.iaload, 1) := by decide +kernel
theorem d_L_law_814 : decode m_L_law.2.1 814 = .ok (.invokevirtual 107, 3) := by decide +kernel
theorem d_L_law_817 : decode m_L_law.2.1 817 = .ok (.aload_n 2, 1) := by decide +kernel
theorem d_L_law_818 : decode m_L_law.2.1 818 = .ok (.aload_n 0, 1) := by decide +kernel
theorem d_L_law_819 : decode m_L_law.2.1 819 = .ok (.iload 4, 2) := by decide +kernel
theorem d_L_law_821 : decode m_L_law.2.1 821 = .ok (.iconst 1, 1) := by decide +kernel
theorem d_L_law_822 : decode m_L_law.2.1 822 = .ok (.iadd, 1) := by decide +kernel
theorem d_L_law_823 : decode m_L_law.2.1 823 = .ok (.iaload, 1) := by decide +kernel
theorem d_L_law_824 : decode m_L_law.2.1 824 = .ok (.aload_n 0, 1) := by decide +kernel
theorem d_L_law_825 : decode m_L_law.2.1 825 = .ok (.iload 4, 2) := by decide +kernel
theorem d_L_law_827 : decode m_L_law.2.1 827 = .ok (.iconst 2, 1) := by decide +kernel
theorem d_L_law_828 : decode m_L_law.2.1 828 = .ok (.iadd, 1) := by decide +kernel
theorem d_L_law_829 : decode m_L_law.2.1 829 = .ok (.iaload, 1) := by decide +kernel
theorem d_L_law_830 : decode m_L_law.2.1 830 = .ok (.invokevirtual 110, 3) := by decide +kernel
theorem d_L_law_833 : decode m_L_law.2.1 833 = .ok (.if_icmp .eq 502, 3) := by decide +kernel
theorem d_L_law_836 : decode m_L_law.2.1 836 = .ok (.iconst 0, 1) := by decide +kernel
theorem d_L_law_837 : decode m_L_law.2.1 837 = .ok (.ireturn, 1) := by decide +kernel
theorem d_L_law_838 : decode m_L_law.2.1 838 = .ok (.aload_n 1, 1) := by decide +kernel
theorem d_L_law_839 : decode m_L_law.2.1 839 = .ok (.invokevirtual 111, 3) := by decide +kernel
theorem d_L_law_842 : decode m_L_law.2.1 842 = .ok (.aload_n 2, 1) := by decide +kernel
theorem d_L_law_843 : decode m_L_law.2.1 843 = .ok (.invokevirtual 114, 3) := by decide +kernel
theorem d_L_law_846 : decode m_L_law.2.1 846 = .ok (.if_icmp .eq 489, 3) := by decide +kernel
theorem d_L_law_849 : decode m_L_law.2.1 849 = .ok (.iconst 0, 1) := by decide +kernel
theorem d_L_law_850 : decode m_L_law.2.1 850 = .ok (.ireturn, 1) := by decide +kernel
theorem d_L_law_851 : decode m_L_law.2.1 851 = .ok (.aload_n 1, 1) := by decide +kernel
theorem d_L_law_852 : decode m_L_law.2.1 852 = .ok (.invokevirtual 115, 3) := by decide +kernel
theorem d_L_law_855 : decode m_L_law.2.1 855 = .ok (.aload_n 2, 1) := by decide +kernel
theorem d_L_law_856 : decode m_L_law.2.1 856 = .ok (.invokevirtual 118, 3) := by decide +kernel
theorem d_L_law_859 : decode m_L_law.2.1 859 = .ok (.if_icmp .eq 476, 3) := by decide +kernel
theorem d_L_law_862 : decode m_L_law.2.1 862 = .ok (.iconst 0, 1) := by decide +kernel
theorem d_L_law_863 : decode m_L_law.2.1 863 = .ok (.ireturn, 1) := by decide +kernel
theorem d_L_law_864 : decode m_L_law.2.1 864 = .ok (.aload_n 1, 1) := by decide +kernel
theorem d_L_law_865 : decode m_L_law.2.1 865 = .ok (.invokevirtual 119, 3) := by decide +kernel
theorem d_L_law_868 : decode m_L_law.2.1 868 = .ok (.aload_n 2, 1) := by decide +kernel
theorem d_L_law_869 : decode m_L_law.2.1 869 = .ok (.invokevirtual 122, 3) := by decide +kernel
theorem d_L_law_872 : decode m_L_law.2.1 872 = .ok (.if_icmp .eq 463, 3) := by decide +kernel
theorem d_L_law_875 : decode m_L_law.2.1 875 = .ok (.iconst 0, 1) := by decide +kernel
theorem d_L_law_876 : decode m_L_law.2.1 876 = .ok (.ireturn, 1) := by decide +kernel
theorem d_L_law_877 : decode m_L_law.2.1 877 = .ok (.aload_n 1, 1) := by decide +kernel
theorem d_L_law_878 : decode m_L_law.2.1 878 = .ok (.invokevirtual 123, 3) := by decide +kernel
theorem d_L_law_881 : decode m_L_law.2.1 881 = .ok (.aload_n 2, 1) := by decide +kernel
theorem d_L_law_882 : decode m_L_law.2.1 882 = .ok (.invokevirtual 126, 3) := by decide +kernel
theorem d_L_law_885 : decode m_L_law.2.1 885 = .ok (.if_icmp .eq 450, 3) := by decide +kernel
theorem d_L_law_888 : decode m_L_law.2.1 888 = .ok (.iconst 0, 1) := by decide +kernel
theorem d_L_law_889 : decode m_L_law.2.1 889 = .ok (.ireturn, 1) := by decide +kernel
theorem d_L_law_890 : decode m_L_law.2.1 890 = .ok (.aload_n 1, 1) := by decide +kernel
theorem d_L_law_891 : decode m_L_law.2.1 891 = .ok (.aload_n 0, 1) := by decide +kernel
theorem d_L_law_892 : decode m_L_law.2.1 892 = .ok (.iload 4, 2) := by decide +kernel
theorem d_L_law_894 : decode m_L_law.2.1 894 = .ok (.iconst 1, 1) := by decide +kernel
theorem d_L_law_895 : decode m_L_law.2.1 895 = .ok (.iadd, 1) := by decide +kernel
theorem d_L_law_896 : decode m_L_law.2.1 896 = .ok (.iaload, 1) := by decide +kernel
theorem d_L_law_897 : decode m_L_law.2.1 897 = .ok (.invokevirtual 127, 3) := by decide +kernel
theorem d_L_law_900 : decode m_L_law.2.1 900 = .ok (.aload_n 2, 1) := by decide +kernel
theorem d_L_law_901 : decode m_L_law.2.1 901 = .ok (.aload_n 0, 1) := by decide +kernel
theorem d_L_law_902 : decode m_L_law.2.1 902 = .ok (.iload 4, 2) := by decide +kernel
theorem d_L_law_904 : decode m_L_law.2.1 904 = .ok (.iconst 1, 1) := by decide +kernel
theorem d_L_law_905 : decode m_L_law.2.1 905 = .ok (.iadd, 1) := by decide +kernel
theorem d_L_law_906 : decode m_L_law.2.1 906 = .ok (.iaload, 1) := by decide +kernel
theorem d_L_law_907 : decode m_L_law.2.1 907 = .ok (.invokevirtual 130, 3) := by decide +kernel
theorem d_L_law_910 : decode m_L_law.2.1 910 = .ok (.if_icmp .eq 425, 3) := by decide +kernel
theorem d_L_law_913 : decode m_L_law.2.1 913 = .ok (.iconst 0, 1) := by decide +kernel
theorem d_L_law_914 : decode m_L_law.2.1 914 = .ok (.ireturn, 1) := by decide +kernel
theorem d_L_law_915 : decode m_L_law.2.1 915 = .ok (.aload_n 1, 1) := by decide +kernel
theorem d_L_law_916 : decode m_L_law.2.1 916 = .ok (.aload_n 0, 1) := by decide +kernel
theorem d_L_law_917 : decode m_L_law.2.1 917 = .ok (.iload 4, 2) := by decide +kernel
theorem d_L_law_919 : decode m_L_law.2.1 919 = .ok (.iconst 1, 1) := by decide +kernel
theorem d_L_law_920 : decode m_L_law.2.1 920 = .ok (.iadd, 1) := by decide +kernel
theorem d_L_law_921 : decode m_L_law.2.1 921 = .ok (.iaload, 1) := by decide +kernel
theorem d_L_law_922 : decode m_L_law.2.1 922 = .ok (.aload_n 0, 1) := by decide +kernel
theorem d_L_law_923 : decode m_L_law.2.1 923 = .ok (.iload 4, 2) := by decide +kernel
theorem d_L_law_925 : decode m_L_law.2.1 925 = .ok (.iconst 2, 1) := by decide +kernel
theorem d_L_law_926 : decode m_L_law.2.1 926 = .ok (.iadd, 1) := by decide +kernel
theorem d_L_law_927 : decode m_L_law.2.1 927 = .ok (.iaload, 1) := by decide +kernel
theorem d_L_law_928 : decode m_L_law.2.1 928 = .ok (.invokevirtual 131, 3) := by decide +kernel
theorem d_L_law_931 : decode m_L_law.2.1 931 = .ok (.aload_n 2, 1) := by decide +kernel
theorem d_L_law_932 : decode m_L_law.2.1 932 = .ok (.aload_n 0, 1) := by decide +kernel
theorem d_L_law_933 : decode m_L_law.2.1 933 = .ok (.iload 4, 2) := by decide +kernel
theorem d_L_law_935 : decode m_L_law.2.1 935 = .ok (.iconst 1, 1) := by decide +kernel
theorem d_L_law_936 : decode m_L_law.2.1 936 = .ok (.iadd, 1) := by decide +kernel
theorem d_L_law_937 : decode m_L_law.2.1 937 = .ok (.iaload, 1) := by decide +kernel
theorem d_L_law_938 : decode m_L_law.2.1 938 = .ok (.aload_n 0, 1) := by decide +kernel
theorem d_L_law_939 : decode m_L_law.2.1 939 = .ok (.iload 4, 2) := by decide +kernel
theorem d_L_law_941 : decode m_L_law.2.1 941 = .ok (.iconst 2, 1) := by decide +kernel
theorem d_L_law_942 : decode m_L_law.2.1 942 = .ok (.iadd, 1) := by decide +kernel
theorem d_L_law_943 : decode m_L_law.2.1 943 = .ok (.iaload, 1) := by decide +kernel
theorem d_L_law_944 : decode m_L_law.2.1 944 = .ok (.invokevirtual 134, 3) := by decide +kernel
theorem d_L_law_947 : decode m_L_law.2.1 947 = .ok (.if_icmp .eq 388, 3) := by decide +kernel
theorem d_L_law_950 : decode m_L_law.2.1 950 = .ok (.iconst 0, 1) := by decide +kernel
theorem d_L_law_951 : decode m_L_law.2.1 951 = .ok (.ireturn, 1) := by decide +kernel
theorem d_L_law_952 : decode m_L_law.2.1 952 = .ok (.aload_n 1, 1) := by decide +kernel
theorem d_L_law_953 : decode m_L_law.2.1 953 = .ok (.aload_n 0, 1) := by decide +kernel
theorem d_L_law_954 : decode m_L_law.2.1 954 = .ok (.iload 4, 2) := by decide +kernel
theorem d_L_law_956 : decode m_L_law.2.1 956 = .ok (.iconst 1, 1) := by decide +kernel
theorem d_L_law_957 : decode m_L_law.2.1 957 = .ok (.iadd, 1) := by decide +kernel
theorem d_L_law_958 : decode m_L_law.2.1 958 = .ok (.iaload, 1) := by decide +kernel
theorem d_L_law_959 : decode m_L_law.2.1 959 = .ok (.aload_n 0, 1) := by decide +kernel
theorem d_L_law_960 : decode m_L_law.2.1 960 = .ok (.iload 4, 2) := by decide +kernel
theorem d_L_law_962 : decode m_L_law.2.1 962 = .ok (.iconst 2, 1) := by decide +kernel
theorem d_L_law_963 : decode m_L_law.2.1 963 = .ok (.iadd, 1) := by decide +kernel
theorem d_L_law_964 : decode m_L_law.2.1 964 = .ok (.iaload, 1) := by decide +kernel
theorem d_L_law_965 : decode m_L_law.2.1 965 = .ok (.invokevirtual 135, 3) := by decide +kernel
theorem d_L_law_968 : decode m_L_law.2.1 968 = .ok (.aload_n 2, 1) := by decide +kernel
theorem d_L_law_969 : decode m_L_law.2.1 969 = .ok (.aload_n 0, 1) := by decide +kernel
theorem d_L_law_970 : decode m_L_law.2.1 970 = .ok (.iload 4, 2) := by decide +kernel
theorem d_L_law_972 : decode m_L_law.2.1 972 = .ok (.iconst 1, 1) := by decide +kernel
theorem d_L_law_973 : decode m_L_law.2.1 973 = .ok (.iadd, 1) := by decide +kernel
theorem d_L_law_974 : decode m_L_law.2.1 974 = .ok (.iaload, 1) := by decide +kernel
theorem d_L_law_975 : decode m_L_law.2.1 975 = .ok (.aload_n 0, 1) := by decide +kernel
theorem d_L_law_976 : decode m_L_law.2.1 976 = .ok (.iload 4, 2) := by decide +kernel
theorem d_L_law_978 : decode m_L_law.2.1 978 = .ok (.iconst 2, 1) := by decide +kernel
theorem d_L_law_979 : decode m_L_law.2.1 979 = .ok (.iadd, 1) := by decide +kernel
theorem d_L_law_980 : decode m_L_law.2.1 980 = .ok (.iaload, 1) := by decide +kernel
theorem d_L_law_981 : decode m_L_law.2.1 981 = .ok (.invokevirtual 138, 3) := by decide +kernel
theorem d_L_law_984 : decode m_L_law.2.1 984 = .ok (.if_icmp .eq 351, 3) := by decide +kernel
theorem d_L_law_987 : decode m_L_law.2.1 987 = .ok (.iconst 0, 1) := by decide +kernel
theorem d_L_law_988 : decode m_L_law.2.1 988 = .ok (.ireturn, 1) := by decide +kernel
theorem d_L_law_989 : decode m_L_law.2.1 989 = .ok (.aload_n 1, 1) := by decide +kernel
theorem d_L_law_990 : decode m_L_law.2.1 990 = .ok (.aload_n 0, 1) := by decide +kernel
theorem d_L_law_991 : decode m_L_law.2.1 991 = .ok (.iload 4, 2) := by decide +kernel
theorem d_L_law_993 : decode m_L_law.2.1 993 = .ok (.iconst 1, 1) := by decide +kernel
theorem d_L_law_994 : decode m_L_law.2.1 994 = .ok (.iadd, 1) := by decide +kernel
theorem d_L_law_995 : decode m_L_law.2.1 995 = .ok (.iaload, 1) := by decide +kernel
theorem d_L_law_996 : decode m_L_law.2.1 996 = .ok (.aload_n 0, 1) := by decide +kernel
theorem d_L_law_997 : decode m_L_law.2.1 997 = .ok (.iload 4, 2) := by decide +kernel
theorem d_L_law_999 : decode m_L_law.2.1 999 = .ok (.iconst 2, 1) := by decide +kernel
theorem d_L_law_1000 : decode m_L_law.2.1 1000 = .ok (.iadd, 1) := by decide +kernel
theorem d_L_law_1001 : decode m_L_law.2.1 1001 = .ok (.iaload, 1) := by decide +kernel
theorem d_L_law_1002 : decode m_L_law.2.1 1002 = .ok (.aload_n 0, 1) := by decide +kernel
theorem d_L_law_1003 : decode m_L_law.2.1 1003 = .ok (.iload 4, 2) := by decide +kernel
theorem d_L_law_1005 : decode m_L_law.2.1 1005 = .ok (.iconst 3, 1) := by decide +kernel
theorem d_L_law_1006 : decode m_L_law.2.1 1006 = .ok (.iadd, 1) := by decide +kernel
theorem d_L_law_1007 : decode m_L_law.2.1 1007 = .ok (.iaload, 1) := by decide +kernel
theorem d_L_law_1008 : decode m_L_law.2.1 1008 = .ok (.invokevirtual 139, 3) := by decide +kernel
theorem d_L_law_1011 : decode m_L_law.2.1 1011 = .ok (.aload_n 2, 1) := by decide +kernel
theorem d_L_law_1012 : decode m_L_law.2.1 1012 = .ok (.aload_n 0, 1) := by decide +kernel
theorem d_L_law_1013 : decode m_L_law.2.1 1013 = .ok (.iload 4, 2) := by decide +kernel
theorem d_L_law_1015 : decode m_L_law.2.1 1015 = .ok (.iconst 1, 1) := by decide +kernel
theorem d_L_law_1016 : decode m_L_law.2.1 1016 = .ok (.iadd, 1) := by decide +kernel
theorem d_L_law_1017 : decode m_L_law.2.1 1017 = .ok (.iaload, 1) := by decide +kernel
theorem d_L_law_1018 : decode m_L_law.2.1 1018 = .ok (.aload_n 0, 1) := by decide +kernel
theorem d_L_law_1019 : decode m_L_law.2.1 1019 = .ok (.iload 4, 2) := by decide +kernel
theorem d_L_law_1021 : decode m_L_law.2.1 1021 = .ok (.iconst 2, 1) := by decide +kernel
theorem d_L_law_1022 : decode m_L_law.2.1 1022 = .ok (.iadd, 1) := by decide +kernel
theorem d_L_law_1023 : decode m_L_law.2.1 1023 = .ok (.iaload, 1) := by decide +kernel
theorem d_L_law_1024 : decode m_L_law.2.1 1024 = .ok (.aload_n 0, 1) := by decide +kernel
theorem d_L_law_1025 : decode m_L_law.2.1 1025 = .ok (.iload 4, 2) := by decide +kernel
theorem d_L_law_1027 : decode m_L_law.2.1 1027 = .ok (.iconst 3, 1) := by decide +kernel
theorem d_L_law_1028 : decode m_L_law.2.1 1028 = .ok (.iadd, 1) := by decide +kernel
theorem d_L_law_1029 : decode m_L_law.2.1 1029 = .ok (.iaload, 1) := by decide +kernel
theorem d_L_law_1030 : decode m_L_law.2.1 1030 = .ok (.invokevirtual 142, 3) := by decide +kernel
theorem d_L_law_1033 : decode m_L_law.2.1 1033 = .ok (.if_icmp .eq 302, 3) := by decide +kernel
theorem d_L_law_1036 : decode m_L_law.2.1 1036 = .ok (.iconst 0, 1) := by decide +kernel
theorem d_L_law_1037 : decode m_L_law.2.1 1037 = .ok (.ireturn, 1) := by decide +kernel
theorem d_L_law_1038 : decode m_L_law.2.1 1038 = .ok (.aload_n 1, 1) := by decide +kernel
theorem d_L_law_1039 : decode m_L_law.2.1 1039 = .ok (.aload_n 0, 1) := by decide +kernel
theorem d_L_law_1040 : decode m_L_law.2.1 1040 = .ok (.iload 4, 2) := by decide +kernel
theorem d_L_law_1042 : decode m_L_law.2.1 1042 = .ok (.iconst 1, 1) := by decide +kernel
theorem d_L_law_1043 : decode m_L_law.2.1 1043 = .ok (.iadd, 1) := by decide +kernel
theorem d_L_law_1044 : decode m_L_law.2.1 1044 = .ok (.iaload, 1) := by decide +kernel
theorem d_L_law_1045 : decode m_L_law.2.1 1045 = .ok (.aload_n 0, 1) := by decide +kernel
theorem d_L_law_1046 : decode m_L_law.2.1 1046 = .ok (.iload 4, 2) := by decide +kernel
theorem d_L_law_1048 : decode m_L_law.2.1 1048 = .ok (.iconst 2, 1) := by decide +kernel
theorem d_L_law_1049 : decode m_L_law.2.1 1049 = .ok (.iadd, 1) := by decide +kernel
theorem d_L_law_1050 : decode m_L_law.2.1 1050 = .ok (.iaload, 1) := by decide +kernel
theorem d_L_law_1051 : decode m_L_law.2.1 1051 = .ok (.aload_n 0, 1) := by decide +kernel
theorem d_L_law_1052 : decode m_L_law.2.1 1052 = .ok (.iload 4, 2) := by decide +kernel
theorem d_L_law_1054 : decode m_L_law.2.1 1054 = .ok (.iconst 3, 1) := by decide +kernel
theorem d_L_law_1055 : decode m_L_law.2.1 1055 = .ok (.iadd, 1) := by decide +kernel
theorem d_L_law_1056 : decode m_L_law.2.1 1056 = .ok (.iaload, 1) := by decide +kernel
theorem d_L_law_1057 : decode m_L_law.2.1 1057 = .ok (.aload_n 0, 1) := by decide +kernel
theorem d_L_law_1058 : decode m_L_law.2.1 1058 = .ok (.iload 4, 2) := by decide +kernel
theorem d_L_law_1060 : decode m_L_law.2.1 1060 = .ok (.iconst 4, 1) := by decide +kernel
theorem d_L_law_1061 : decode m_L_law.2.1 1061 = .ok (.iadd, 1) := by decide +kernel
theorem d_L_law_1062 : decode m_L_law.2.1 1062 = .ok (.iaload, 1) := by decide +kernel
theorem d_L_law_1063 : decode m_L_law.2.1 1063 = .ok (.invokevirtual 143, 3) := by decide +kernel
theorem d_L_law_1066 : decode m_L_law.2.1 1066 = .ok (.aload_n 2, 1) := by decide +kernel
theorem d_L_law_1067 : decode m_L_law.2.1 1067 = .ok (.aload_n 0, 1) := by decide +kernel
theorem d_L_law_1068 : decode m_L_law.2.1 1068 = .ok (.iload 4, 2) := by decide +kernel
theorem d_L_law_1070 : decode m_L_law.2.1 1070 = .ok (.iconst 1, 1) := by decide +kernel
theorem d_L_law_1071 : decode m_L_law.2.1 1071 = .ok (.iadd, 1) := by decide +kernel
theorem d_L_law_1072 : decode m_L_law.2.1 1072 = .ok (.iaload, 1) := by decide +kernel
theorem d_L_law_1073 : decode m_L_law.2.1 1073 = .ok (.aload_n 0, 1) := by decide +kernel
theorem d_L_law_1074 : decode m_L_law.2.1 1074 = .ok (.iload 4, 2) := by decide +kernel
theorem d_L_law_1076 : decode m_L_law.2.1 1076 = .ok (.iconst 2, 1) := by decide +kernel
theorem d_L_law_1077 : decode m_L_law.2.1 1077 = .ok (.iadd, 1) := by decide +kernel
theorem d_L_law_1078 : decode m_L_law.2.1 1078 = .ok (.iaload, 1) := by decide +kernel
theorem d_L_law_1079 : decode m_L_law.2.1 1079 = .ok (.aload_n 0, 1) := by decide +kernel
theorem d_L_law_1080 : decode m_L_law.2.1 1080 = .ok (.iload 4, 2) := by decide +kernel
theorem d_L_law_1082 : decode m_L_law.2.1 1082 = .ok (.iconst 3, 1) := by decide +kernel
theorem d_L_law_1083 : decode m_L_law.2.1 1083 = .ok (.iadd, 1) := by decide +kernel
theorem d_L_law_1084 : decode m_L_law.2.1 1084 = .ok (.iaload, 1) := by decide +kernel
theorem d_L_law_1085 : decode m_L_law.2.1 1085 = .ok (.aload_n 0, 1) := by decide +kernel
theorem d_L_law_1086 : decode m_L_law.2.1 1086 = .ok (.iload 4, 2) := by decide +kernel
theorem d_L_law_1088 : decode m_L_law.2.1 1088 = .ok (.iconst 4, 1) := by decide +kernel
theorem d_L_law_1089 : decode m_L_law.2.1 1089 = .ok (.iadd, 1) := by decide +kernel
theorem d_L_law_1090 : decode m_L_law.2.1 1090 = .ok (.iaload, 1) := by decide +kernel
theorem d_L_law_1091 : decode m_L_law.2.1 1091 = .ok (.invokevirtual 147, 3) := by decide +kernel
theorem d_L_law_1094 : decode m_L_law.2.1 1094 = .ok (.if_icmp .eq 241, 3) := by decide +kernel
theorem d_L_law_1097 : decode m_L_law.2.1 1097 = .ok (.iconst 0, 1) := by decide +kernel
theorem d_L_law_1098 : decode m_L_law.2.1 1098 = .ok (.ireturn, 1) := by decide +kernel
theorem d_L_law_1099 : decode m_L_law.2.1 1099 = .ok (.aload_n 1, 1) := by decide +kernel
theorem d_L_law_1100 : decode m_L_law.2.1 1100 = .ok (.aload_n 0, 1) := by decide +kernel
theorem d_L_law_1101 : decode m_L_law.2.1 1101 = .ok (.iload 4, 2) := by decide +kernel
theorem d_L_law_1103 : decode m_L_law.2.1 1103 = .ok (.iconst 1, 1) := by decide +kernel
theorem d_L_law_1104 : decode m_L_law.2.1 1104 = .ok (.iadd, 1) := by decide +kernel
theorem d_L_law_1105 : decode m_L_law.2.1 1105 = .ok (.iaload, 1) := by decide +kernel
theorem d_L_law_1106 : decode m_L_law.2.1 1106 = .ok (.aload_n 0, 1) := by decide +kernel
theorem d_L_law_1107 : decode m_L_law.2.1 1107 = .ok (.iload 4, 2) := by decide +kernel
theorem d_L_law_1109 : decode m_L_law.2.1 1109 = .ok (.iconst 2, 1) := by decide +kernel
theorem d_L_law_1110 : decode m_L_law.2.1 1110 = .ok (.iadd, 1) := by decide +kernel
theorem d_L_law_1111 : decode m_L_law.2.1 1111 = .ok (.iaload, 1) := by decide +kernel
theorem d_L_law_1112 : decode m_L_law.2.1 1112 = .ok (.aload_n 0, 1) := by decide +kernel
theorem d_L_law_1113 : decode m_L_law.2.1 1113 = .ok (.iload 4, 2) := by decide +kernel
theorem d_L_law_1115 : decode m_L_law.2.1 1115 = .ok (.iconst 3, 1) := by decide +kernel
theorem d_L_law_1116 : decode m_L_law.2.1 1116 = .ok (.iadd, 1) := by decide +kernel
theorem d_L_law_1117 : decode m_L_law.2.1 1117 = .ok (.iaload, 1) := by decide +kernel
theorem d_L_law_1118 : decode m_L_law.2.1 1118 = .ok (.aload_n 0, 1) := by decide +kernel
theorem d_L_law_1119 : decode m_L_law.2.1 1119 = .ok (.iload 4, 2) := by decide +kernel
theorem d_L_law_1121 : decode m_L_law.2.1 1121 = .ok (.iconst 4, 1) := by decide +kernel
theorem d_L_law_1122 : decode m_L_law.2.1 1122 = .ok (.iadd, 1) := by decide +kernel
theorem d_L_law_1123 : decode m_L_law.2.1 1123 = .ok (.iaload, 1) := by decide +kernel
theorem d_L_law_1124 : decode m_L_law.2.1 1124 = .ok (.invokevirtual 148, 3) := by decide +kernel
theorem d_L_law_1127 : decode m_L_law.2.1 1127 = .ok (.aload_n 2, 1) := by decide +kernel
theorem d_L_law_1128 : decode m_L_law.2.1 1128 = .ok (.aload_n 0, 1) := by decide +kernel
theorem d_L_law_1129 : decode m_L_law.2.1 1129 = .ok (.iload 4, 2) := by decide +kernel
theorem d_L_law_1131 : decode m_L_law.2.1 1131 = .ok (.iconst 1, 1) := by decide +kernel
theorem d_L_law_1132 : decode m_L_law.2.1 1132 = .ok (.iadd, 1) := by decide +kernel
theorem d_L_law_1133 : decode m_L_law.2.1 1133 = .ok (.iaload, 1) := by decide +kernel
theorem d_L_law_1134 : decode m_L_law.2.1 1134 = .ok (.aload_n 0, 1) := by decide +kernel
theorem d_L_law_1135 : decode m_L_law.2.1 1135 = .ok (.iload 4, 2) := by decide +kernel
theorem d_L_law_1137 : decode m_L_law.2.1 1137 = .ok (.iconst 2, 1) := by decide +kernel
theorem d_L_law_1138 : decode m_L_law.2.1 1138 = .ok (.iadd, 1) := by decide +kernel
theorem d_L_law_1139 : decode m_L_law.2.1 1139 = .ok (.iaload, 1) := by decide +kernel
theorem d_L_law_1140 : decode m_L_law.2.1 1140 = .ok (.aload_n 0, 1) := by decide +kernel
theorem d_L_law_1141 : decode m_L_law.2.1 1141 = .ok (.iload 4, 2) := by decide +kernel
theorem d_L_law_1143 : decode m_L_law.2.1 1143 = .ok (.iconst 3, 1) := by decide +kernel
theorem d_L_law_1144 : decode m_L_law.2.1 1144 = .ok (.iadd, 1) := by decide +kernel
theorem d_L_law_1145 : decode m_L_law.2.1 1145 = .ok (.iaload, 1) := by decide +kernel
theorem d_L_law_1146 : decode m_L_law.2.1 1146 = .ok (.aload_n 0, 1) := by decide +kernel
theorem d_L_law_1147 : decode m_L_law.2.1 1147 = .ok (.iload 4, 2) := by decide +kernel
theorem d_L_law_1149 : decode m_L_law.2.1 1149 = .ok (.iconst 4, 1) := by decide +kernel
theorem d_L_law_1150 : decode m_L_law.2.1 1150 = .ok (.iadd, 1) := by decide +kernel
theorem d_L_law_1151 : decode m_L_law.2.1 1151 = .ok (.iaload, 1) := by decide +kernel
theorem d_L_law_1152 : decode m_L_law.2.1 1152 = .ok (.invokevirtual 151, 3) := by decide +kernel
theorem d_L_law_1155 : decode m_L_law.2.1 1155 = .ok (.if_icmp .eq 180, 3) := by decide +kernel
theorem d_L_law_1158 : decode m_L_law.2.1 1158 = .ok (.iconst 0, 1) := by decide +kernel
theorem d_L_law_1159 : decode m_L_law.2.1 1159 = .ok (.ireturn, 1) := by decide +kernel
theorem d_L_law_1160 : decode m_L_law.2.1 1160 = .ok (.aload_n 1, 1) := by decide +kernel
theorem d_L_law_1161 : decode m_L_law.2.1 1161 = .ok (.aload_n 0, 1) := by decide +kernel
theorem d_L_law_1162 : decode m_L_law.2.1 1162 = .ok (.iload 4, 2) := by decide +kernel
theorem d_L_law_1164 : decode m_L_law.2.1 1164 = .ok (.iconst 1, 1) := by decide +kernel
theorem d_L_law_1165 : decode m_L_law.2.1 1165 = .ok (.iadd, 1) := by decide +kernel
theorem d_L_law_1166 : decode m_L_law.2.1 1166 = .ok (.iaload, 1) := by decide +kernel
theorem d_L_law_1167 : decode m_L_law.2.1 1167 = .ok (.invokevirtual 152, 3) := by decide +kernel
theorem d_L_law_1170 : decode m_L_law.2.1 1170 = .ok (.aload_n 2, 1) := by decide +kernel
theorem d_L_law_1171 : decode m_L_law.2.1 1171 = .ok (.aload_n 0, 1) := by decide +kernel
theorem d_L_law_1172 : decode m_L_law.2.1 1172 = .ok (.iload 4, 2) := by decide +kernel
theorem d_L_law_1174 : decode m_L_law.2.1 1174 = .ok (.iconst 1, 1) := by decide +kernel
theorem d_L_law_1175 : decode m_L_law.2.1 1175 = .ok (.iadd, 1) := by decide +kernel
theorem d_L_law_1176 : decode m_L_law.2.1 1176 = .ok (.iaload, 1) := by decide +kernel
theorem d_L_law_1177 : decode m_L_law.2.1 1177 = .ok (.invokevirtual 155, 3) := by decide +kernel
theorem d_L_law_1180 : decode m_L_law.2.1 1180 = .ok (.if_icmp .eq 155, 3) := by decide +kernel
theorem d_L_law_1183 : decode m_L_law.2.1 1183 = .ok (.iconst 0, 1) := by decide +kernel
theorem d_L_law_1184 : decode m_L_law.2.1 1184 = .ok (.ireturn, 1) := by decide +kernel
theorem d_L_law_1185 : decode m_L_law.2.1 1185 = .ok (.aload_n 1, 1) := by decide +kernel
theorem d_L_law_1186 : decode m_L_law.2.1 1186 = .ok (.aload_n 0, 1) := by decide +kernel
theorem d_L_law_1187 : decode m_L_law.2.1 1187 = .ok (.iload 4, 2) := by decide +kernel
theorem d_L_law_1189 : decode m_L_law.2.1 1189 = .ok (.iconst 1, 1) := by decide +kernel
theorem d_L_law_1190 : decode m_L_law.2.1 1190 = .ok (.iadd, 1) := by decide +kernel
theorem d_L_law_1191 : decode m_L_law.2.1 1191 = .ok (.iaload, 1) := by decide +kernel
theorem d_L_law_1192 : decode m_L_law.2.1 1192 = .ok (.aload_n 0, 1) := by decide +kernel
theorem d_L_law_1193 : decode m_L_law.2.1 1193 = .ok (.iload 4, 2) := by decide +kernel
theorem d_L_law_1195 : decode m_L_law.2.1 1195 = .ok (.iconst 2, 1) := by decide +kernel
theorem d_L_law_1196 : decode m_L_law.2.1 1196 = .ok (.iadd, 1) := by decide +kernel
theorem d_L_law_1197 : decode m_L_law.2.1 1197 = .ok (.iaload, 1) := by decide +kernel
theorem d_L_law_1198 : decode m_L_law.2.1 1198 = .ok (.invokevirtual 156, 3) := by decide +kernel
theorem d_L_law_1201 : decode m_L_law.2.1 1201 = .ok (.aload_n 2, 1) := by decide +kernel
theorem d_L_law_1202 : decode m_L_law.2.1 1202 = .ok (.aload_n 0, 1) := by decide +kernel
theorem d_L_law_1203 : decode m_L_law.2.1 1203 = .ok (.iload 4, 2) := by decide +kernel
theorem d_L_law_1205 : decode m_L_law.2.1 1205 = .ok (.iconst 1, 1) := by decide +kernel
theorem d_L_law_1206 : decode m_L_law.2.1 1206 = .ok (.iadd, 1) := by decide +kernel
theorem d_L_law_1207 : decode m_L_law.2.1 1207 = .ok (.iaload, 1) := by decide +kernel
theorem d_L_law_1208 : decode m_L_law.2.1 1208 = .ok (.aload_n 0, 1) := by decide +kernel
theorem d_L_law_1209 : decode m_L_law.2.1 1209 = .ok (.iload 4, 2) := by decide +kernel
theorem d_L_law_1211 : decode m_L_law.2.1 1211 = .ok (.iconst 2, 1) := by decide +kernel
theorem d_L_law_1212 : decode m_L_law.2.1 1212 = .ok (.iadd, 1) := by decide +kernel
theorem d_L_law_1213 : decode m_L_law.2.1 1213 = .ok (.iaload, 1) := by decide +kernel
theorem d_L_law_1214 : decode m_L_law.2.1 1214 = .ok (.invokevirtual 159, 3) := by decide +kernel
theorem d_L_law_1217 : decode m_L_law.2.1 1217 = .ok (.if_icmp .eq 118, 3) := by decide +kernel
theorem d_L_law_1220 : decode m_L_law.2.1 1220 = .ok (.iconst 0, 1) := by decide +kernel
theorem d_L_law_1221 : decode m_L_law.2.1 1221 = .ok (.ireturn, 1) := by decide +kernel
theorem d_L_law_1222 : decode m_L_law.2.1 1222 = .ok (.aload_n 1, 1) := by decide +kernel
theorem d_L_law_1223 : decode m_L_law.2.1 1223 = .ok (.invokevirtual 160, 3) := by decide +kernel
theorem d_L_law_1226 : decode m_L_law.2.1 1226 = .ok (.aload_n 2, 1) := by decide +kernel
theorem d_L_law_1227 : decode m_L_law.2.1 1227 = .ok (.invokevirtual 163, 3) := by decide +kernel
theorem d_L_law_1230 : decode m_L_law.2.1 1230 = .ok (.if_icmp .eq 105, 3) := by decide +kernel
theorem d_L_law_1233 : decode m_L_law.2.1 1233 = .ok (.iconst 0, 1) := by decide +kernel
theorem d_L_law_1234 : decode m_L_law.2.1 1234 = .ok (.ireturn, 1) := by decide +kernel
theorem d_L_law_1235 : decode m_L_law.2.1 1235 = .ok (.aload_n 1, 1) := by decide +kernel
theorem d_L_law_1236 : decode m_L_law.2.1 1236 = .ok (.aload_n 0, 1) := by decide +kernel
theorem d_L_law_1237 : decode m_L_law.2.1 1237 = .ok (.iload 4, 2) := by decide +kernel
theorem d_L_law_1239 : decode m_L_law.2.1 1239 = .ok (.iconst 1, 1) := by decide +kernel
theorem d_L_law_1240 : decode m_L_law.2.1 1240 = .ok (.iadd, 1) := by decide +kernel
theorem d_L_law_1241 : decode m_L_law.2.1 1241 = .ok (.iaload, 1) := by decide +kernel
theorem d_L_law_1242 : decode m_L_law.2.1 1242 = .ok (.invokevirtual 164, 3) := by decide +kernel
theorem d_L_law_1245 : decode m_L_law.2.1 1245 = .ok (.aload_n 2, 1) := by decide +kernel
theorem d_L_law_1246 : decode m_L_law.2.1 1246 = .ok (.aload_n 0, 1) := by decide +kernel
theorem d_L_law_1247 : decode m_L_law.2.1 1247 = .ok (.iload 4, 2) := by decide +kernel
theorem d_L_law_1249 : decode m_L_law.2.1 1249 = .ok (.iconst 1, 1) := by decide +kernel
theorem d_L_law_1250 : decode m_L_law.2.1 1250 = .ok (.iadd, 1) := by decide +kernel
theorem d_L_law_1251 : decode m_L_law.2.1 1251 = .ok (.iaload, 1) := by decide +kernel
theorem d_L_law_1252 : decode m_L_law.2.1 1252 = .ok (.invokevirtual 167, 3) := by decide +kernel
theorem d_L_law_1255 : decode m_L_law.2.1 1255 = .ok (.if_icmp .eq 80, 3) := by decide +kernel
theorem d_L_law_1258 : decode m_L_law.2.1 1258 = .ok (.iconst 0, 1) := by decide +kernel
theorem d_L_law_1259 : decode m_L_law.2.1 1259 = .ok (.ireturn, 1) := by decide +kernel
theorem d_L_law_1260 : decode m_L_law.2.1 1260 = .ok (.aload_n 1, 1) := by decide +kernel
theorem d_L_law_1261 : decode m_L_law.2.1 1261 = .ok (.aload_n 0, 1) := by decide +kernel
theorem d_L_law_1262 : decode m_L_law.2.1 1262 = .ok (.iload 4, 2) := by decide +kernel
theorem d_L_law_1264 : decode m_L_law.2.1 1264 = .ok (.iconst 1, 1) := by decide +kernel
theorem d_L_law_1265 : decode m_L_law.2.1 1265 = .ok (.iadd, 1) := by decide +kernel
theorem d_L_law_1266 : decode m_L_law.2.1 1266 = .ok (.iaload, 1) := by decide +kernel
theorem d_L_law_1267 : decode m_L_law.2.1 1267 = .ok (.invokevirtual 168, 3) := by decide +kernel
theorem d_L_law_1270 : decode m_L_law.2.1 1270 = .ok (.aload_n 2, 1) := by decide +kernel
theorem d_L_law_1271 : decode m_L_law.2.1 1271 = .ok (.aload_n 0, 1) := by decide +kernel
theorem d_L_law_1272 : decode m_L_law.2.1 1272 = .ok (.iload 4, 2) := by decide +kernel
theorem d_L_law_1274 : decode m_L_law.2.1 1274 = .ok (.iconst 1, 1) := by decide +kernel
theorem d_L_law_1275 : decode m_L_law.2.1 1275 = .ok (.iadd, 1) := by decide +kernel
theorem d_L_law_1276 : decode m_L_law.2.1 1276 = .ok (.iaload, 1) := by decide +kernel
theorem d_L_law_1277 : decode m_L_law.2.1 1277 = .ok (.invokevirtual 171, 3) := by decide +kernel
theorem d_L_law_1280 : decode m_L_law.2.1 1280 = .ok (.if_icmp .eq 55, 3) := by decide +kernel
theorem d_L_law_1283 : decode m_L_law.2.1 1283 = .ok (.iconst 0, 1) := by decide +kernel
theorem d_L_law_1284 : decode m_L_law.2.1 1284 = .ok (.ireturn, 1) := by decide +kernel
theorem d_L_law_1285 : decode m_L_law.2.1 1285 = .ok (.aload_n 1, 1) := by decide +kernel
theorem d_L_law_1286 : decode m_L_law.2.1 1286 = .ok (.aload_n 0, 1) := by decide +kernel
theorem d_L_law_1287 : decode m_L_law.2.1 1287 = .ok (.iload 4, 2) := by decide +kernel
theorem d_L_law_1289 : decode m_L_law.2.1 1289 = .ok (.iconst 1, 1) := by decide +kernel
theorem d_L_law_1290 : decode m_L_law.2.1 1290 = .ok (.iadd, 1) := by decide +kernel
theorem d_L_law_1291 : decode m_L_law.2.1 1291 = .ok (.iaload, 1) := by decide +kernel
theorem d_L_law_1292 : decode m_L_law.2.1 1292 = .ok (.invokevirtual 172, 3) := by decide +kernel
theorem d_L_law_1295 : decode m_L_law.2.1 1295 = .ok (.aload_n 2, 1) := by decide +kernel
theorem d_L_law_1296 : decode m_L_law.2.1 1296 = .ok (.aload_n 0, 1) := by decide +kernel
theorem d_L_law_1297 : decode m_L_law.2.1 1297 = .ok (.iload 4, 2) := by decide +kernel
theorem d_L_law_1299 : decode m_L_law.2.1 1299 = .ok (.iconst 1, 1) := by decide +kernel
theorem d_L_law_1300 : decode m_L_law.2.1 1300 = .ok (.iadd, 1) := by decide +kernel
theorem d_L_law_1301 : decode m_L_law.2.1 1301 = .ok (.iaload, 1) := by decide +kernel
theorem d_L_law_1302 : decode m_L_law.2.1 1302 = .ok (.invokevirtual 175, 3) := by decide +kernel
theorem d_L_law_1305 : decode m_L_law.2.1 1305 = .ok (.if_icmp .eq 30, 3) := by decide +kernel
theorem d_L_law_1308 : decode m_L_law.2.1 1308 = .ok (.iconst 0, 1) := by decide +kernel
theorem d_L_law_1309 : decode m_L_law.2.1 1309 = .ok (.ireturn, 1) := by decide +kernel
theorem d_L_law_1310 : decode m_L_law.2.1 1310 = .ok (.aload_n 1, 1) := by decide +kernel
theorem d_L_law_1311 : decode m_L_law.2.1 1311 = .ok (.aload_n 0, 1) := by decide +kernel
theorem d_L_law_1312 : decode m_L_law.2.1 1312 = .ok (.iload 4, 2) := by decide +kernel
theorem d_L_law_1314 : decode m_L_law.2.1 1314 = .ok (.iconst 1, 1) := by decide +kernel
theorem d_L_law_1315 : decode m_L_law.2.1 1315 = .ok (.iadd, 1) := by decide +kernel
theorem d_L_law_1316 : decode m_L_law.2.1 1316 = .ok (.iaload, 1) := by decide +kernel
theorem d_L_law_1317 : decode m_L_law.2.1 1317 = .ok (.invokevirtual 176, 3) := by decide +kernel
theorem d_L_law_1320 : decode m_L_law.2.1 1320 = .ok (.aload_n 2, 1) := by decide +kernel
theorem d_L_law_1321 : decode m_L_law.2.1 1321 = .ok (.aload_n 0, 1) := by decide +kernel
theorem d_L_law_1322 : decode m_L_law.2.1 1322 = .ok (.iload 4, 2) := by decide +kernel
theorem d_L_law_1324 : decode m_L_law.2.1 1324 = .ok (.iconst 1, 1) := by decide +kernel
theorem d_L_law_1325 : decode m_L_law.2.1 1325 = .ok (.iadd, 1) := by decide +kernel
theorem d_L_law_1326 : decode m_L_law.2.1 1326 = .ok (.iaload, 1) := by decide +kernel
theorem d_L_law_1327 : decode m_L_law.2.1 1327 = .ok (.invokevirtual 179, 3) := by decide +kernel
theorem d_L_law_1330 : decode m_L_law.2.1 1330 = .ok (.if_icmp .eq 5, 3) := by decide +kernel
theorem d_L_law_1333 : decode m_L_law.2.1 1333 = .ok (.iconst 0, 1) := by decide +kernel
theorem d_L_law_1334 : decode m_L_law.2.1 1334 = .ok (.ireturn, 1) := by decide +kernel
theorem d_L_law_1335 : decode m_L_law.2.1 1335 = .ok (.iinc 4 6, 3) := by decide +kernel
theorem d_L_law_1338 : decode m_L_law.2.1 1338 = .ok (.goto (-1315), 3) := by decide +kernel
theorem d_L_law_1341 : decode m_L_law.2.1 1341 = .ok (.iconst 1, 1) := by decide +kernel
theorem d_L_law_1342 : decode m_L_law.2.1 1342 = .ok (.ireturn, 1) := by decide +kernel
