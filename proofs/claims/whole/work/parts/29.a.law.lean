theorem dc_L_law_0 : decode code 0 = .ok (.new 8, 3) := by decide +kernel
theorem dc_L_law_3 : decode code 3 = .ok (.dup, 1) := by decide +kernel
theorem dc_L_law_4 : decode code 4 = .ok (.invokespecial 75, 3) := by decide +kernel
theorem dc_L_law_7 : decode code 7 = .ok (.astore_n 1, 1) := by decide +kernel
theorem dc_L_law_8 : decode code 8 = .ok (.new 76, 3) := by decide +kernel
theorem dc_L_law_11 : decode code 11 = .ok (.dup, 1) := by decide +kernel
theorem dc_L_law_12 : decode code 12 = .ok (.invokespecial 78, 3) := by decide +kernel
theorem dc_L_law_15 : decode code 15 = .ok (.astore_n 2, 1) := by decide +kernel
theorem dc_L_law_16 : decode code 16 = .ok (.iconst 1, 1) := by decide +kernel
theorem dc_L_law_17 : decode code 17 = .ok (.newarray .long, 2) := by decide +kernel
theorem dc_L_law_19 : decode code 19 = .ok (.astore_n 3, 1) := by decide +kernel
theorem dc_L_law_20 : decode code 20 = .ok (.iconst 0, 1) := by decide +kernel
theorem dc_L_law_21 : decode code 21 = .ok (.istore 4, 2) := by decide +kernel
theorem dc_L_law_23 : decode code 23 = .ok (.iload 4, 2) := by decide +kernel
theorem dc_L_law_25 : decode code 25 = .ok (.aload_n 0, 1) := by decide +kernel
theorem dc_L_law_26 : decode code 26 = .ok (.arraylength, 1) := by decide +kernel
theorem dc_L_law_27 : decode code 27 = .ok (.iconst 4, 1) := by decide +kernel
theorem dc_L_law_28 : decode code 28 = .ok (.isub, 1) := by decide +kernel
theorem dc_L_law_29 : decode code 29 = .ok (.if_icmp .gt 1316, 3) := by decide +kernel
theorem dc_L_law_32 : decode code 32 = .ok (.aload_n 0, 1) := by decide +kernel
theorem dc_L_law_33 : decode code 33 = .ok (.iload 4, 2) := by decide +kernel
theorem dc_L_law_35 : decode code 35 = .ok (.iaload, 1) := by decide +kernel
theorem dc_L_law_36 : decode code 36 = .ok (.bipush 31, 2) := by decide +kernel
theorem dc_L_law_38 : decode code 38 = .ok (.iand, 1) := by decide +kernel
theorem dc_L_law_39 : decode code 39 = .ok (.tableswitch 1300 0 22 #[105, 161, 229, 297, 353, 409, 465, 533, 589, 645, 712, 780, 848, 861, 917, 931, 944, 1024, 1037, 1112, 1125, 1181, 1244], 105) := by decide +kernel
theorem dc_L_law_144 : decode code 144 = .ok (.aload_n 1, 1) := by decide +kernel
theorem dc_L_law_145 : decode code 145 = .ok (.aload_n 0, 1) := by decide +kernel
theorem dc_L_law_146 : decode code 146 = .ok (.iload 4, 2) := by decide +kernel
theorem dc_L_law_148 : decode code 148 = .ok (.iconst 1, 1) := by decide +kernel
theorem dc_L_law_149 : decode code 149 = .ok (.iadd, 1) := by decide +kernel
theorem dc_L_law_150 : decode code 150 = .ok (.iaload, 1) := by decide +kernel
theorem dc_L_law_151 : decode code 151 = .ok (.aload_n 3, 1) := by decide +kernel
theorem dc_L_law_152 : decode code 152 = .ok (.invokestatic 79, 3) := by decide +kernel
theorem dc_L_law_155 : decode code 155 = .ok (.istore 5, 2) := by decide +kernel
theorem dc_L_law_157 : decode code 157 = .ok (.aload_n 2, 1) := by decide +kernel
theorem dc_L_law_158 : decode code 158 = .ok (.aload_n 0, 1) := by decide +kernel
theorem dc_L_law_159 : decode code 159 = .ok (.iload 4, 2) := by decide +kernel
theorem dc_L_law_161 : decode code 161 = .ok (.iconst 1, 1) := by decide +kernel
theorem dc_L_law_162 : decode code 162 = .ok (.iadd, 1) := by decide +kernel
theorem dc_L_law_163 : decode code 163 = .ok (.iaload, 1) := by decide +kernel
theorem dc_L_law_164 : decode code 164 = .ok (.invokevirtual 84, 3) := by decide +kernel
theorem dc_L_law_167 : decode code 167 = .ok (.istore 6, 2) := by decide +kernel
theorem dc_L_law_169 : decode code 169 = .ok (.aload_n 2, 1) := by decide +kernel
theorem dc_L_law_170 : decode code 170 = .ok (.invokevirtual 85, 3) := by decide +kernel
theorem dc_L_law_173 : decode code 173 = .ok (.iload 5, 2) := by decide +kernel
theorem dc_L_law_175 : decode code 175 = .ok (.if_icmp .eq 5, 3) := by decide +kernel
theorem dc_L_law_178 : decode code 178 = .ok (.iconst 0, 1) := by decide +kernel
theorem dc_L_law_179 : decode code 179 = .ok (.ireturn, 1) := by decide +kernel
theorem dc_L_law_180 : decode code 180 = .ok (.iload 5, 2) := by decide +kernel
theorem dc_L_law_182 : decode code 182 = .ok (.ifCond .ne 15, 3) := by decide +kernel
theorem dc_L_law_185 : decode code 185 = .ok (.aload_n 3, 1) := by decide +kernel
theorem dc_L_law_186 : decode code 186 = .ok (.iconst 0, 1) := by decide +kernel
theorem dc_L_law_187 : decode code 187 = .ok (.laload, 1) := by decide +kernel
theorem dc_L_law_188 : decode code 188 = .ok (.iload 6, 2) := by decide +kernel
theorem dc_L_law_190 : decode code 190 = .ok (.i2l, 1) := by decide +kernel
theorem dc_L_law_191 : decode code 191 = .ok (.lcmp, 1) := by decide +kernel
theorem dc_L_law_192 : decode code 192 = .ok (.ifCond .eq 5, 3) := by decide +kernel
theorem dc_L_law_195 : decode code 195 = .ok (.iconst 0, 1) := by decide +kernel
theorem dc_L_law_196 : decode code 196 = .ok (.ireturn, 1) := by decide +kernel
theorem dc_L_law_197 : decode code 197 = .ok (.goto 1142, 3) := by decide +kernel
theorem dc_L_law_200 : decode code 200 = .ok (.aload_n 1, 1) := by decide +kernel
theorem dc_L_law_201 : decode code 201 = .ok (.aload_n 0, 1) := by decide +kernel
theorem dc_L_law_202 : decode code 202 = .ok (.iload 4, 2) := by decide +kernel
theorem dc_L_law_204 : decode code 204 = .ok (.iconst 1, 1) := by decide +kernel
theorem dc_L_law_205 : decode code 205 = .ok (.iadd, 1) := by decide +kernel
theorem dc_L_law_206 : decode code 206 = .ok (.iaload, 1) := by decide +kernel
theorem dc_L_law_207 : decode code 207 = .ok (.aload_n 0, 1) := by decide +kernel
theorem dc_L_law_208 : decode code 208 = .ok (.iload 4, 2) := by decide +kernel
theorem dc_L_law_210 : decode code 210 = .ok (.iconst 2, 1) := by decide +kernel
theorem dc_L_law_211 : decode code 211 = .ok (.iadd, 1) := by decide +kernel
theorem dc_L_law_212 : decode code 212 = .ok (.iaload, 1) := by decide +kernel
theorem dc_L_law_213 : decode code 213 = .ok (.aload_n 3, 1) := by decide +kernel
theorem dc_L_law_214 : decode code 214 = .ok (.invokestatic 89, 3) := by decide +kernel
theorem dc_L_law_217 : decode code 217 = .ok (.istore 5, 2) := by decide +kernel
theorem dc_L_law_219 : decode code 219 = .ok (.aload_n 2, 1) := by decide +kernel
theorem dc_L_law_220 : decode code 220 = .ok (.aload_n 0, 1) := by decide +kernel
theorem dc_L_law_221 : decode code 221 = .ok (.iload 4, 2) := by decide +kernel
theorem dc_L_law_223 : decode code 223 = .ok (.iconst 1, 1) := by decide +kernel
theorem dc_L_law_224 : decode code 224 = .ok (.iadd, 1) := by decide +kernel
theorem dc_L_law_225 : decode code 225 = .ok (.iaload, 1) := by decide +kernel
theorem dc_L_law_226 : decode code 226 = .ok (.aload_n 0, 1) := by decide +kernel
theorem dc_L_law_227 : decode code 227 = .ok (.iload 4, 2) := by decide +kernel
theorem dc_L_law_229 : decode code 229 = .ok (.iconst 2, 1) := by decide +kernel
theorem dc_L_law_230 : decode code 230 = .ok (.iadd, 1) := by decide +kernel
theorem dc_L_law_231 : decode code 231 = .ok (.iaload, 1) := by decide +kernel
theorem dc_L_law_232 : decode code 232 = .ok (.invokevirtual 92, 3) := by decide +kernel
theorem dc_L_law_235 : decode code 235 = .ok (.istore 6, 2) := by decide +kernel
theorem dc_L_law_237 : decode code 237 = .ok (.aload_n 2, 1) := by decide +kernel
theorem dc_L_law_238 : decode code 238 = .ok (.invokevirtual 85, 3) := by decide +kernel
theorem dc_L_law_241 : decode code 241 = .ok (.iload 5, 2) := by decide +kernel
theorem dc_L_law_243 : decode code 243 = .ok (.if_icmp .eq 5, 3) := by decide +kernel
theorem dc_L_law_246 : decode code 246 = .ok (.iconst 0, 1) := by decide +kernel
theorem dc_L_law_247 : decode code 247 = .ok (.ireturn, 1) := by decide +kernel
theorem dc_L_law_248 : decode code 248 = .ok (.iload 5, 2) := by decide +kernel
theorem dc_L_law_250 : decode code 250 = .ok (.ifCond .ne 15, 3) := by decide +kernel
theorem dc_L_law_253 : decode code 253 = .ok (.aload_n 3, 1) := by decide +kernel
theorem dc_L_law_254 : decode code 254 = .ok (.iconst 0, 1) := by decide +kernel
theorem dc_L_law_255 : decode code 255 = .ok (.laload, 1) := by decide +kernel
theorem dc_L_law_256 : decode code 256 = .ok (.iload 6, 2) := by decide +kernel
theorem dc_L_law_258 : decode code 258 = .ok (.i2l, 1) := by decide +kernel
theorem dc_L_law_259 : decode code 259 = .ok (.lcmp, 1) := by decide +kernel
theorem dc_L_law_260 : decode code 260 = .ok (.ifCond .eq 5, 3) := by decide +kernel
theorem dc_L_law_263 : decode code 263 = .ok (.iconst 0, 1) := by decide +kernel
theorem dc_L_law_264 : decode code 264 = .ok (.ireturn, 1) := by decide +kernel
theorem dc_L_law_265 : decode code 265 = .ok (.goto 1074, 3) := by decide +kernel
theorem dc_L_law_268 : decode code 268 = .ok (.aload_n 1, 1) := by decide +kernel
theorem dc_L_law_269 : decode code 269 = .ok (.aload_n 0, 1) := by decide +kernel
theorem dc_L_law_270 : decode code 270 = .ok (.iload 4, 2) := by decide +kernel
theorem dc_L_law_272 : decode code 272 = .ok (.iconst 1, 1) := by decide +kernel
theorem dc_L_law_273 : decode code 273 = .ok (.iadd, 1) := by decide +kernel
theorem dc_L_law_274 : decode code 274 = .ok (.iaload, 1) := by decide +kernel
theorem dc_L_law_275 : decode code 275 = .ok (.aload_n 0, 1) := by decide +kernel
theorem dc_L_law_276 : decode code 276 = .ok (.iload 4, 2) := by decide +kernel
theorem dc_L_law_278 : decode code 278 = .ok (.iconst 2, 1) := by decide +kernel
theorem dc_L_law_279 : decode code 279 = .ok (.iadd, 1) := by decide +kernel
theorem dc_L_law_280 : decode code 280 = .ok (.iaload, 1) := by decide +kernel
theorem dc_L_law_281 : decode code 281 = .ok (.aload_n 3, 1) := by decide +kernel
theorem dc_L_law_282 : decode code 282 = .ok (.invokestatic 93, 3) := by decide +kernel
theorem dc_L_law_285 : decode code 285 = .ok (.istore 5, 2) := by decide +kernel
theorem dc_L_law_287 : decode code 287 = .ok (.aload_n 2, 1) := by decide +kernel
theorem dc_L_law_288 : decode code 288 = .ok (.aload_n 0, 1) := by decide +kernel
theorem dc_L_law_289 : decode code 289 = .ok (.iload 4, 2) := by decide +kernel
theorem dc_L_law_291 : decode code 291 = .ok (.iconst 1, 1) := by decide +kernel
theorem dc_L_law_292 : decode code 292 = .ok (.iadd, 1) := by decide +kernel
theorem dc_L_law_293 : decode code 293 = .ok (.iaload, 1) := by decide +kernel
theorem dc_L_law_294 : decode code 294 = .ok (.aload_n 0, 1) := by decide +kernel
theorem dc_L_law_295 : decode code 295 = .ok (.iload 4, 2) := by decide +kernel
theorem dc_L_law_297 : decode code 297 = .ok (.iconst 2, 1) := by decide +kernel
theorem dc_L_law_298 : decode code 298 = .ok (.iadd, 1) := by decide +kernel
theorem dc_L_law_299 : decode code 299 = .ok (.iaload, 1) := by decide +kernel
theorem dc_L_law_300 : decode code 300 = .ok (.invokevirtual 95, 3) := by decide +kernel
theorem dc_L_law_303 : decode code 303 = .ok (.istore 6, 2) := by decide +kernel
theorem dc_L_law_305 : decode code 305 = .ok (.aload_n 2, 1) := by decide +kernel
theorem dc_L_law_306 : decode code 306 = .ok (.invokevirtual 85, 3) := by decide +kernel
theorem dc_L_law_309 : decode code 309 = .ok (.iload 5, 2) := by decide +kernel
theorem dc_L_law_311 : decode code 311 = .ok (.if_icmp .eq 5, 3) := by decide +kernel
theorem dc_L_law_314 : decode code 314 = .ok (.iconst 0, 1) := by decide +kernel
theorem dc_L_law_315 : decode code 315 = .ok (.ireturn, 1) := by decide +kernel
theorem dc_L_law_316 : decode code 316 = .ok (.iload 5, 2) := by decide +kernel
theorem dc_L_law_318 : decode code 318 = .ok (.ifCond .ne 15, 3) := by decide +kernel
theorem dc_L_law_321 : decode code 321 = .ok (.aload_n 3, 1) := by decide +kernel
theorem dc_L_law_322 : decode code 322 = .ok (.iconst 0, 1) := by decide +kernel
theorem dc_L_law_323 : decode code 323 = .ok (.laload, 1) := by decide +kernel
theorem dc_L_law_324 : decode code 324 = .ok (.iload 6, 2) := by decide +kernel
theorem dc_L_law_326 : decode code 326 = .ok (.i2l, 1) := by decide +kernel
theorem dc_L_law_327 : decode code 327 = .ok (.lcmp, 1) := by decide +kernel
theorem dc_L_law_328 : decode code 328 = .ok (.ifCond .eq 5, 3) := by decide +kernel
theorem dc_L_law_331 : decode code 331 = .ok (.iconst 0, 1) := by decide +kernel
theorem dc_L_law_332 : decode code 332 = .ok (.ireturn, 1) := by decide +kernel
theorem dc_L_law_333 : decode code 333 = .ok (.goto 1006, 3) := by decide +kernel
theorem dc_L_law_336 : decode code 336 = .ok (.aload_n 1, 1) := by decide +kernel
theorem dc_L_law_337 : decode code 337 = .ok (.aload_n 0, 1) := by decide +kernel
theorem dc_L_law_338 : decode code 338 = .ok (.iload 4, 2) := by decide +kernel
theorem dc_L_law_340 : decode code 340 = .ok (.iconst 1, 1) := by decide +kernel
theorem dc_L_law_341 : decode code 341 = .ok (.iadd, 1) := by decide +kernel
theorem dc_L_law_342 : decode code 342 = .ok (.iaload, 1) := by decide +kernel
theorem dc_L_law_343 : decode code 343 = .ok (.aload_n 3, 1) := by decide +kernel
theorem dc_L_law_344 : decode code 344 = .ok (.invokestatic 96, 3) := by decide +kernel
theorem dc_L_law_347 : decode code 347 = .ok (.istore 5, 2) := by decide +kernel
theorem dc_L_law_349 : decode code 349 = .ok (.aload_n 2, 1) := by decide +kernel
theorem dc_L_law_350 : decode code 350 = .ok (.aload_n 0, 1) := by decide +kernel
theorem dc_L_law_351 : decode code 351 = .ok (.iload 4, 2) := by decide +kernel
theorem dc_L_law_353 : decode code 353 = .ok (.iconst 1, 1) := by decide +kernel
theorem dc_L_law_354 : decode code 354 = .ok (.iadd, 1) := by decide +kernel
theorem dc_L_law_355 : decode code 355 = .ok (.iaload, 1) := by decide +kernel
theorem dc_L_law_356 : decode code 356 = .ok (.invokevirtual 98, 3) := by decide +kernel
theorem dc_L_law_359 : decode code 359 = .ok (.istore 6, 2) := by decide +kernel
theorem dc_L_law_361 : decode code 361 = .ok (.aload_n 2, 1) := by decide +kernel
theorem dc_L_law_362 : decode code 362 = .ok (.invokevirtual 85, 3) := by decide +kernel
theorem dc_L_law_365 : decode code 365 = .ok (.iload 5, 2) := by decide +kernel
theorem dc_L_law_367 : decode code 367 = .ok (.if_icmp .eq 5, 3) := by decide +kernel
theorem dc_L_law_370 : decode code 370 = .ok (.iconst 0, 1) := by decide +kernel
theorem dc_L_law_371 : decode code 371 = .ok (.ireturn, 1) := by decide +kernel
theorem dc_L_law_372 : decode code 372 = .ok (.iload 5, 2) := by decide +kernel
theorem dc_L_law_374 : decode code 374 = .ok (.ifCond .ne 15, 3) := by decide +kernel
theorem dc_L_law_377 : decode code 377 = .ok (.aload_n 3, 1) := by decide +kernel
theorem dc_L_law_378 : decode code 378 = .ok (.iconst 0, 1) := by decide +kernel
theorem dc_L_law_379 : decode code 379 = .ok (.laload, 1) := by decide +kernel
theorem dc_L_law_380 : decode code 380 = .ok (.iload 6, 2) := by decide +kernel
theorem dc_L_law_382 : decode code 382 = .ok (.i2l, 1) := by decide +kernel
theorem dc_L_law_383 : decode code 383 = .ok (.lcmp, 1) := by decide +kernel
theorem dc_L_law_384 : decode code 384 = .ok (.ifCond .eq 5, 3) := by decide +kernel
theorem dc_L_law_387 : decode code 387 = .ok (.iconst 0, 1) := by decide +kernel
theorem dc_L_law_388 : decode code 388 = .ok (.ireturn, 1) := by decide +kernel
theorem dc_L_law_389 : decode code 389 = .ok (.goto 950, 3) := by decide +kernel
theorem dc_L_law_392 : decode code 392 = .ok (.aload_n 1, 1) := by decide +kernel
theorem dc_L_law_393 : decode code 393 = .ok (.aload_n 0, 1) := by decide +kernel
theorem dc_L_law_394 : decode code 394 = .ok (.iload 4, 2) := by decide +kernel
theorem dc_L_law_396 : decode code 396 = .ok (.iconst 1, 1) := by decide +kernel
theorem dc_L_law_397 : decode code 397 = .ok (.iadd, 1) := by decide +kernel
theorem dc_L_law_398 : decode code 398 = .ok (.iaload, 1) := by decide +kernel
theorem dc_L_law_399 : decode code 399 = .ok (.aload_n 3, 1) := by decide +kernel
theorem dc_L_law_400 : decode code 400 = .ok (.invokestatic 99, 3) := by decide +kernel
theorem dc_L_law_403 : decode code 403 = .ok (.istore 5, 2) := by decide +kernel
theorem dc_L_law_405 : decode code 405 = .ok (.aload_n 2, 1) := by decide +kernel
theorem dc_L_law_406 : decode code 406 = .ok (.aload_n 0, 1) := by decide +kernel
theorem dc_L_law_407 : decode code 407 = .ok (.iload 4, 2) := by decide +kernel
theorem dc_L_law_409 : decode code 409 = .ok (.iconst 1, 1) := by decide +kernel
theorem dc_L_law_410 : decode code 410 = .ok (.iadd, 1) := by decide +kernel
theorem dc_L_law_411 : decode code 411 = .ok (.iaload, 1) := by decide +kernel
theorem dc_L_law_412 : decode code 412 = .ok (.invokevirtual 101, 3) := by decide +kernel
theorem dc_L_law_415 : decode code 415 = .ok (.istore 6, 2) := by decide +kernel
theorem dc_L_law_417 : decode code 417 = .ok (.aload_n 2, 1) := by decide +kernel
theorem dc_L_law_418 : decode code 418 = .ok (.invokevirtual 85, 3) := by decide +kernel
theorem dc_L_law_421 : decode code 421 = .ok (.iload 5, 2) := by decide +kernel
theorem dc_L_law_423 : decode code 423 = .ok (.if_icmp .eq 5, 3) := by decide +kernel
theorem dc_L_law_426 : decode code 426 = .ok (.iconst 0, 1) := by decide +kernel
theorem dc_L_law_427 : decode code 427 = .ok (.ireturn, 1) := by decide +kernel
theorem dc_L_law_428 : decode code 428 = .ok (.iload 5, 2) := by decide +kernel
theorem dc_L_law_430 : decode code 430 = .ok (.ifCond .ne 15, 3) := by decide +kernel
theorem dc_L_law_433 : decode code 433 = .ok (.aload_n 3, 1) := by decide +kernel
theorem dc_L_law_434 : decode code 434 = .ok (.iconst 0, 1) := by decide +kernel
theorem dc_L_law_435 : decode code 435 = .ok (.laload, 1) := by decide +kernel
theorem dc_L_law_436 : decode code 436 = .ok (.iload 6, 2) := by decide +kernel
theorem dc_L_law_438 : decode code 438 = .ok (.i2l, 1) := by decide +kernel
theorem dc_L_law_439 : decode code 439 = .ok (.lcmp, 1) := by decide +kernel
theorem dc_L_law_440 : decode code 440 = .ok (.ifCond .eq 5, 3) := by decide +kernel
theorem dc_L_law_443 : decode code 443 = .ok (.iconst 0, 1) := by decide +kernel
theorem dc_L_law_444 : decode code 444 = .ok (.ireturn, 1) := by decide +kernel
theorem dc_L_law_445 : decode code 445 = .ok (.goto 894, 3) := by decide +kernel
theorem dc_L_law_448 : decode code 448 = .ok (.aload_n 1, 1) := by decide +kernel
theorem dc_L_law_449 : decode code 449 = .ok (.aload_n 0, 1) := by decide +kernel
theorem dc_L_law_450 : decode code 450 = .ok (.iload 4, 2) := by decide +kernel
theorem dc_L_law_452 : decode code 452 = .ok (.iconst 1, 1) := by decide +kernel
theorem dc_L_law_453 : decode code 453 = .ok (.iadd, 1) := by decide +kernel
theorem dc_L_law_454 : decode code 454 = .ok (.iaload, 1) := by decide +kernel
theorem dc_L_law_455 : decode code 455 = .ok (.aload_n 3, 1) := by decide +kernel
theorem dc_L_law_456 : decode code 456 = .ok (.invokestatic 102, 3) := by decide +kernel
theorem dc_L_law_459 : decode code 459 = .ok (.istore 5, 2) := by decide +kernel
theorem dc_L_law_461 : decode code 461 = .ok (.aload_n 2, 1) := by decide +kernel
theorem dc_L_law_462 : decode code 462 = .ok (.aload_n 0, 1) := by decide +kernel
theorem dc_L_law_463 : decode code 463 = .ok (.iload 4, 2) := by decide +kernel
theorem dc_L_law_465 : decode code 465 = .ok (.iconst 1, 1) := by decide +kernel
theorem dc_L_law_466 : decode code 466 = .ok (.iadd, 1) := by decide +kernel
theorem dc_L_law_467 : decode code 467 = .ok (.iaload, 1) := by decide +kernel
theorem dc_L_law_468 : decode code 468 = .ok (.invokevirtual 104, 3) := by decide +kernel
theorem dc_L_law_471 : decode code 471 = .ok (.istore 6, 2) := by decide +kernel
theorem dc_L_law_473 : decode code 473 = .ok (.aload_n 2, 1) := by decide +kernel
theorem dc_L_law_474 : decode code 474 = .ok (.invokevirtual 85, 3) := by decide +kernel
theorem dc_L_law_477 : decode code 477 = .ok (.iload 5, 2) := by decide +kernel
theorem dc_L_law_479 : decode code 479 = .ok (.if_icmp .eq 5, 3) := by decide +kernel
theorem dc_L_law_482 : decode code 482 = .ok (.iconst 0, 1) := by decide +kernel
theorem dc_L_law_483 : decode code 483 = .ok (.ireturn, 1) := by decide +kernel
theorem dc_L_law_484 : decode code 484 = .ok (.iload 5, 2) := by decide +kernel
theorem dc_L_law_486 : decode code 486 = .ok (.ifCond .ne 15, 3) := by decide +kernel
theorem dc_L_law_489 : decode code 489 = .ok (.aload_n 3, 1) := by decide +kernel
theorem dc_L_law_490 : decode code 490 = .ok (.iconst 0, 1) := by decide +kernel
theorem dc_L_law_491 : decode code 491 = .ok (.laload, 1) := by decide +kernel
theorem dc_L_law_492 : decode code 492 = .ok (.iload 6, 2) := by decide +kernel
theorem dc_L_law_494 : decode code 494 = .ok (.i2l, 1) := by decide +kernel
theorem dc_L_law_495 : decode code 495 = .ok (.lcmp, 1) := by decide +kernel
theorem dc_L_law_496 : decode code 496 = .ok (.ifCond .eq 5, 3) := by decide +kernel
theorem dc_L_law_499 : decode code 499 = .ok (.iconst 0, 1) := by decide +kernel
theorem dc_L_law_500 : decode code 500 = .ok (.ireturn, 1) := by decide +kernel
theorem dc_L_law_501 : decode code 501 = .ok (.goto 838, 3) := by decide +kernel
theorem dc_L_law_504 : decode code 504 = .ok (.aload_n 1, 1) := by decide +kernel
theorem dc_L_law_505 : decode code 505 = .ok (.aload_n 0, 1) := by decide +kernel
theorem dc_L_law_506 : decode code 506 = .ok (.iload 4, 2) := by decide +kernel
theorem dc_L_law_508 : decode code 508 = .ok (.iconst 1, 1) := by decide +kernel
theorem dc_L_law_509 : decode code 509 = .ok (.iadd, 1) := by decide +kernel
theorem dc_L_law_510 : decode code 510 = .ok (.iaload, 1) := by decide +kernel
theorem dc_L_law_511 : decode code 511 = .ok (.aload_n 0, 1) := by decide +kernel
theorem dc_L_law_512 : decode code 512 = .ok (.iload 4, 2) := by decide +kernel
theorem dc_L_law_514 : decode code 514 = .ok (.iconst 2, 1) := by decide +kernel
theorem dc_L_law_515 : decode code 515 = .ok (.iadd, 1) := by decide +kernel
theorem dc_L_law_516 : decode code 516 = .ok (.iaload, 1) := by decide +kernel
theorem dc_L_law_517 : decode code 517 = .ok (.aload_n 3, 1) := by decide +kernel
theorem dc_L_law_518 : decode code 518 = .ok (.invokestatic 105, 3) := by decide +kernel
theorem dc_L_law_521 : decode code 521 = .ok (.istore 5, 2) := by decide +kernel
theorem dc_L_law_523 : decode code 523 = .ok (.aload_n 2, 1) := by decide +kernel
theorem dc_L_law_524 : decode code 524 = .ok (.aload_n 0, 1) := by decide +kernel
theorem dc_L_law_525 : decode code 525 = .ok (.iload 4, 2) := by decide +kernel
theorem dc_L_law_527 : decode code 527 = .ok (.iconst 1, 1) := by decide +kernel
theorem dc_L_law_528 : decode code 528 = .ok (.iadd, 1) := by decide +kernel
theorem dc_L_law_529 : decode code 529 = .ok (.iaload, 1) := by decide +kernel
theorem dc_L_law_530 : decode code 530 = .ok (.aload_n 0, 1) := by decide +kernel
theorem dc_L_law_531 : decode code 531 = .ok (.iload 4, 2) := by decide +kernel
theorem dc_L_law_533 : decode code 533 = .ok (.iconst 2, 1) := by decide +kernel
theorem dc_L_law_534 : decode code 534 = .ok (.iadd, 1) := by decide +kernel
theorem dc_L_law_535 : decode code 535 = .ok (.iaload, 1) := by decide +kernel
theorem dc_L_law_536 : decode code 536 = .ok (.invokevirtual 107, 3) := by decide +kernel
theorem dc_L_law_539 : decode code 539 = .ok (.istore 6, 2) := by decide +kernel
theorem dc_L_law_541 : decode code 541 = .ok (.aload_n 2, 1) := by decide +kernel
theorem dc_L_law_542 : decode code 542 = .ok (.invokevirtual 85, 3) := by decide +kernel
theorem dc_L_law_545 : decode code 545 = .ok (.iload 5, 2) := by decide +kernel
theorem dc_L_law_547 : decode code 547 = .ok (.if_icmp .eq 5, 3) := by decide +kernel
theorem dc_L_law_550 : decode code 550 = .ok (.iconst 0, 1) := by decide +kernel
theorem dc_L_law_551 : decode code 551 = .ok (.ireturn, 1) := by decide +kernel
theorem dc_L_law_552 : decode code 552 = .ok (.iload 5, 2) := by decide +kernel
theorem dc_L_law_554 : decode code 554 = .ok (.ifCond .ne 15, 3) := by decide +kernel
theorem dc_L_law_557 : decode code 557 = .ok (.aload_n 3, 1) := by decide +kernel
theorem dc_L_law_558 : decode code 558 = .ok (.iconst 0, 1) := by decide +kernel
theorem dc_L_law_559 : decode code 559 = .ok (.laload, 1) := by decide +kernel
theorem dc_L_law_560 : decode code 560 = .ok (.iload 6, 2) := by decide +kernel
theorem dc_L_law_562 : decode code 562 = .ok (.i2l, 1) := by decide +kernel
theorem dc_L_law_563 : decode code 563 = .ok (.lcmp, 1) := by decide +kernel
theorem dc_L_law_564 : decode code 564 = .ok (.ifCond .eq 5, 3) := by decide +kernel
theorem dc_L_law_567 : decode code 567 = .ok (.iconst 0, 1) := by decide +kernel
theorem dc_L_law_568 : decode code 568 = .ok (.ireturn, 1) := by decide +kernel
theorem dc_L_law_569 : decode code 569 = .ok (.goto 770, 3) := by decide +kernel
theorem dc_L_law_572 : decode code 572 = .ok (.aload_n 1, 1) := by decide +kernel
theorem dc_L_law_573 : decode code 573 = .ok (.aload_n 0, 1) := by decide +kernel
theorem dc_L_law_574 : decode code 574 = .ok (.iload 4, 2) := by decide +kernel
theorem dc_L_law_576 : decode code 576 = .ok (.iconst 1, 1) := by decide +kernel
theorem dc_L_law_577 : decode code 577 = .ok (.iadd, 1) := by decide +kernel
theorem dc_L_law_578 : decode code 578 = .ok (.iaload, 1) := by decide +kernel
theorem dc_L_law_579 : decode code 579 = .ok (.aload_n 3, 1) := by decide +kernel
theorem dc_L_law_580 : decode code 580 = .ok (.invokestatic 108, 3) := by decide +kernel
theorem dc_L_law_583 : decode code 583 = .ok (.istore 5, 2) := by decide +kernel
theorem dc_L_law_585 : decode code 585 = .ok (.aload_n 2, 1) := by decide +kernel
theorem dc_L_law_586 : decode code 586 = .ok (.aload_n 0, 1) := by decide +kernel
theorem dc_L_law_587 : decode code 587 = .ok (.iload 4, 2) := by decide +kernel
theorem dc_L_law_589 : decode code 589 = .ok (.iconst 1, 1) := by decide +kernel
theorem dc_L_law_590 : decode code 590 = .ok (.iadd, 1) := by decide +kernel
theorem dc_L_law_591 : decode code 591 = .ok (.iaload, 1) := by decide +kernel
theorem dc_L_law_592 : decode code 592 = .ok (.invokevirtual 110, 3) := by decide +kernel
theorem dc_L_law_595 : decode code 595 = .ok (.istore 6, 2) := by decide +kernel
theorem dc_L_law_597 : decode code 597 = .ok (.aload_n 2, 1) := by decide +kernel
theorem dc_L_law_598 : decode code 598 = .ok (.invokevirtual 85, 3) := by decide +kernel
theorem dc_L_law_601 : decode code 601 = .ok (.iload 5, 2) := by decide +kernel
theorem dc_L_law_603 : decode code 603 = .ok (.if_icmp .eq 5, 3) := by decide +kernel
theorem dc_L_law_606 : decode code 606 = .ok (.iconst 0, 1) := by decide +kernel
theorem dc_L_law_607 : decode code 607 = .ok (.ireturn, 1) := by decide +kernel
theorem dc_L_law_608 : decode code 608 = .ok (.iload 5, 2) := by decide +kernel
theorem dc_L_law_610 : decode code 610 = .ok (.ifCond .ne 15, 3) := by decide +kernel
theorem dc_L_law_613 : decode code 613 = .ok (.aload_n 3, 1) := by decide +kernel
theorem dc_L_law_614 : decode code 614 = .ok (.iconst 0, 1) := by decide +kernel
theorem dc_L_law_615 : decode code 615 = .ok (.laload, 1) := by decide +kernel
theorem dc_L_law_616 : decode code 616 = .ok (.iload 6, 2) := by decide +kernel
theorem dc_L_law_618 : decode code 618 = .ok (.i2l, 1) := by decide +kernel
theorem dc_L_law_619 : decode code 619 = .ok (.lcmp, 1) := by decide +kernel
theorem dc_L_law_620 : decode code 620 = .ok (.ifCond .eq 5, 3) := by decide +kernel
theorem dc_L_law_623 : decode code 623 = .ok (.iconst 0, 1) := by decide +kernel
theorem dc_L_law_624 : decode code 624 = .ok (.ireturn, 1) := by decide +kernel
theorem dc_L_law_625 : decode code 625 = .ok (.goto 714, 3) := by decide +kernel
theorem dc_L_law_628 : decode code 628 = .ok (.aload_n 1, 1) := by decide +kernel
theorem dc_L_law_629 : decode code 629 = .ok (.aload_n 0, 1) := by decide +kernel
theorem dc_L_law_630 : decode code 630 = .ok (.iload 4, 2) := by decide +kernel
theorem dc_L_law_632 : decode code 632 = .ok (.iconst 1, 1) := by decide +kernel
theorem dc_L_law_633 : decode code 633 = .ok (.iadd, 1) := by decide +kernel
theorem dc_L_law_634 : decode code 634 = .ok (.iaload, 1) := by decide +kernel
theorem dc_L_law_635 : decode code 635 = .ok (.aload_n 3, 1) := by decide +kernel
theorem dc_L_law_636 : decode code 636 = .ok (.invokestatic 111, 3) := by decide +kernel
theorem dc_L_law_639 : decode code 639 = .ok (.istore 5, 2) := by decide +kernel
theorem dc_L_law_641 : decode code 641 = .ok (.aload_n 2, 1) := by decide +kernel
theorem dc_L_law_642 : decode code 642 = .ok (.aload_n 0, 1) := by decide +kernel
theorem dc_L_law_643 : decode code 643 = .ok (.iload 4, 2) := by decide +kernel
theorem dc_L_law_645 : decode code 645 = .ok (.iconst 1, 1) := by decide +kernel
theorem dc_L_law_646 : decode code 646 = .ok (.iadd, 1) := by decide +kernel
theorem dc_L_law_647 : decode code 647 = .ok (.iaload, 1) := by decide +kernel
theorem dc_L_law_648 : decode code 648 = .ok (.invokevirtual 113, 3) := by decide +kernel
theorem dc_L_law_651 : decode code 651 = .ok (.istore 6, 2) := by decide +kernel
theorem dc_L_law_653 : decode code 653 = .ok (.aload_n 2, 1) := by decide +kernel
theorem dc_L_law_654 : decode code 654 = .ok (.invokevirtual 85, 3) := by decide +kernel
theorem dc_L_law_657 : decode code 657 = .ok (.iload 5, 2) := by decide +kernel
theorem dc_L_law_659 : decode code 659 = .ok (.if_icmp .eq 5, 3) := by decide +kernel
theorem dc_L_law_662 : decode code 662 = .ok (.iconst 0, 1) := by decide +kernel
theorem dc_L_law_663 : decode code 663 = .ok (.ireturn, 1) := by decide +kernel
theorem dc_L_law_664 : decode code 664 = .ok (.iload 5, 2) := by decide +kernel
theorem dc_L_law_666 : decode code 666 = .ok (.ifCond .ne 15, 3) := by decide +kernel
theorem dc_L_law_669 : decode code 669 = .ok (.aload_n 3, 1) := by decide +kernel
theorem dc_L_law_670 : decode code 670 = .ok (.iconst 0, 1) := by decide +kernel
theorem dc_L_law_671 : decode code 671 = .ok (.laload, 1) := by decide +kernel
theorem dc_L_law_672 : decode code 672 = .ok (.iload 6, 2) := by decide +kernel
theorem dc_L_law_674 : decode code 674 = .ok (.i2l, 1) := by decide +kernel
theorem dc_L_law_675 : decode code 675 = .ok (.lcmp, 1) := by decide +kernel
theorem dc_L_law_676 : decode code 676 = .ok (.ifCond .eq 5, 3) := by decide +kernel
theorem dc_L_law_679 : decode code 679 = .ok (.iconst 0, 1) := by decide +kernel
theorem dc_L_law_680 : decode code 680 = .ok (.ireturn, 1) := by decide +kernel
theorem dc_L_law_681 : decode code 681 = .ok (.goto 658, 3) := by decide +kernel
theorem dc_L_law_684 : decode code 684 = .ok (.aload_n 1, 1) := by decide +kernel
theorem dc_L_law_685 : decode code 685 = .ok (.aload_n 0, 1) := by decide +kernel
theorem dc_L_law_686 : decode code 686 = .ok (.iload 4, 2) := by decide +kernel
theorem dc_L_law_688 : decode code 688 = .ok (.iconst 1, 1) := by decide +kernel
theorem dc_L_law_689 : decode code 689 = .ok (.iadd, 1) := by decide +kernel
theorem dc_L_law_690 : decode code 690 = .ok (.iaload, 1) := by decide +kernel
theorem dc_L_law_691 : decode code 691 = .ok (.aload_n 0, 1) := by decide +kernel
theorem dc_L_law_692 : decode code 692 = .ok (.iload 4, 2) := by decide +kernel
theorem dc_L_law_694 : decode code 694 = .ok (.iconst 2, 1) := by decide +kernel
theorem dc_L_law_695 : decode code 695 = .ok (.iadd, 1) := by decide +kernel
theorem dc_L_law_696 : decode code 696 = .ok (.iaload, 1) := by decide +kernel
theorem dc_L_law_697 : decode code 697 = .ok (.aload_n 3, 1) := by decide +kernel
theorem dc_L_law_698 : decode code 698 = .ok (.invokestatic 114, 3) := by decide +kernel
theorem dc_L_law_701 : decode code 701 = .ok (.istore 5, 2) := by decide +kernel
theorem dc_L_law_703 : decode code 703 = .ok (.aload_n 2, 1) := by decide +kernel
theorem dc_L_law_704 : decode code 704 = .ok (.aload_n 0, 1) := by decide +kernel
theorem dc_L_law_705 : decode code 705 = .ok (.iload 4, 2) := by decide +kernel
theorem dc_L_law_707 : decode code 707 = .ok (.iconst 1, 1) := by decide +kernel
theorem dc_L_law_708 : decode code 708 = .ok (.iadd, 1) := by decide +kernel
theorem dc_L_law_709 : decode code 709 = .ok (.iaload, 1) := by decide +kernel
theorem dc_L_law_710 : decode code 710 = .ok (.aload_n 0, 1) := by decide +kernel
theorem dc_L_law_711 : decode code 711 = .ok (.iload 4, 2) := by decide +kernel
theorem dc_L_law_713 : decode code 713 = .ok (.iconst 2, 1) := by decide +kernel
theorem dc_L_law_714 : decode code 714 = .ok (.iadd, 1) := by decide +kernel
theorem dc_L_law_715 : decode code 715 = .ok (.iaload, 1) := by decide +kernel
theorem dc_L_law_716 : decode code 716 = .ok (.invokevirtual 116, 3) := by decide +kernel
theorem dc_L_law_719 : decode code 719 = .ok (.lstore 6, 2) := by decide +kernel
theorem dc_L_law_721 : decode code 721 = .ok (.aload_n 2, 1) := by decide +kernel
theorem dc_L_law_722 : decode code 722 = .ok (.invokevirtual 85, 3) := by decide +kernel
theorem dc_L_law_725 : decode code 725 = .ok (.iload 5, 2) := by decide +kernel
theorem dc_L_law_727 : decode code 727 = .ok (.if_icmp .eq 5, 3) := by decide +kernel
theorem dc_L_law_730 : decode code 730 = .ok (.iconst 0, 1) := by decide +kernel
theorem dc_L_law_731 : decode code 731 = .ok (.ireturn, 1) := by decide +kernel
theorem dc_L_law_732 : decode code 732 = .ok (.iload 5, 2) := by decide +kernel
theorem dc_L_law_734 : decode code 734 = .ok (.ifCond .ne 14, 3) := by decide +kernel
theorem dc_L_law_737 : decode code 737 = .ok (.aload_n 3, 1) := by decide +kernel
theorem dc_L_law_738 : decode code 738 = .ok (.iconst 0, 1) := by decide +kernel
theorem dc_L_law_739 : decode code 739 = .ok (.laload, 1) := by decide +kernel
theorem dc_L_law_740 : decode code 740 = .ok (.lload 6, 2) := by decide +kernel
theorem dc_L_law_742 : decode code 742 = .ok (.lcmp, 1) := by decide +kernel
theorem dc_L_law_743 : decode code 743 = .ok (.ifCond .eq 5, 3) := by decide +kernel
theorem dc_L_law_746 : decode code 746 = .ok (.iconst 0, 1) := by decide +kernel
theorem dc_L_law_747 : decode code 747 = .ok (.ireturn, 1) := by decide +kernel
theorem dc_L_law_748 : decode code 748 = .ok (.goto 591, 3) := by decide +kernel
theorem dc_L_law_751 : decode code 751 = .ok (.aload_n 1, 1) := by decide +kernel
theorem dc_L_law_752 : decode code 752 = .ok (.aload_n 0, 1) := by decide +kernel
theorem dc_L_law_753 : decode code 753 = .ok (.iload 4, 2) := by decide +kernel
theorem dc_L_law_755 : decode code 755 = .ok (.iconst 1, 1) := by decide +kernel
theorem dc_L_law_756 : decode code 756 = .ok (.iadd, 1) := by decide +kernel
theorem dc_L_law_757 : decode code 757 = .ok (.iaload, 1) := by decide +kernel
theorem dc_L_law_758 : decode code 758 = .ok (.aload_n 0, 1) := by decide +kernel
theorem dc_L_law_759 : decode code 759 = .ok (.iload 4, 2) := by decide +kernel
theorem dc_L_law_761 : decode code 761 = .ok (.iconst 2, 1) := by decide +kernel
theorem dc_L_law_762 : decode code 762 = .ok (.iadd, 1) := by decide +kernel
theorem dc_L_law_763 : decode code 763 = .ok (.iaload, 1) := by decide +kernel
theorem dc_L_law_764 : decode code 764 = .ok (.aload_n 3, 1) := by decide +kernel
theorem dc_L_law_765 : decode code 765 = .ok (.invokestatic 117, 3) := by decide +kernel
theorem dc_L_law_768 : decode code 768 = .ok (.istore 5, 2) := by decide +kernel
theorem dc_L_law_770 : decode code 770 = .ok (.aload_n 2, 1) := by decide +kernel
theorem dc_L_law_771 : decode code 771 = .ok (.aload_n 0, 1) := by decide +kernel
theorem dc_L_law_772 : decode code 772 = .ok (.iload 4, 2) := by decide +kernel
theorem dc_L_law_774 : decode code 774 = .ok (.iconst 1, 1) := by decide +kernel
theorem dc_L_law_775 : decode code 775 = .ok (.iadd, 1) := by decide +kernel
theorem dc_L_law_776 : decode code 776 = .ok (.iaload, 1) := by decide +kernel
theorem dc_L_law_777 : decode code 777 = .ok (.aload_n 0, 1) := by decide +kernel
theorem dc_L_law_778 : decode code 778 = .ok (.iload 4, 2) := by decide +kernel
theorem dc_L_law_780 : decode code 780 = .ok (.iconst 2, 1) := by decide +kernel
theorem dc_L_law_781 : decode code 781 = .ok (.iadd, 1) := by decide +kernel
theorem dc_L_law_782 : decode code 782 = .ok (.iaload, 1) := by decide +kernel
theorem dc_L_law_783 : decode code 783 = .ok (.invokevirtual 119, 3) := by decide +kernel
theorem dc_L_law_786 : decode code 786 = .ok (.istore 6, 2) := by decide +kernel
theorem dc_L_law_788 : decode code 788 = .ok (.aload_n 2, 1) := by decide +kernel
theorem dc_L_law_789 : decode code 789 = .ok (.invokevirtual 85, 3) := by decide +kernel
theorem dc_L_law_792 : decode code 792 = .ok (.iload 5, 2) := by decide +kernel
theorem dc_L_law_794 : decode code 794 = .ok (.if_icmp .eq 5, 3) := by decide +kernel
theorem dc_L_law_797 : decode code 797 = .ok (.iconst 0, 1) := by decide +kernel
theorem dc_L_law_798 : decode code 798 = .ok (.ireturn, 1) := by decide +kernel
theorem dc_L_law_799 : decode code 799 = .ok (.iload 5, 2) := by decide +kernel
theorem dc_L_law_801 : decode code 801 = .ok (.ifCond .ne 15, 3) := by decide +kernel
theorem dc_L_law_804 : decode code 804 = .ok (.aload_n 3, 1) := by decide +kernel
theorem dc_L_law_805 : decode code 805 = .ok (.iconst 0, 1) := by decide +kernel
theorem dc_L_law_806 : decode code 806 = .ok (.laload, 1) := by decide +kernel
theorem dc_L_law_807 : decode code 807 = .ok (.iload 6, 2) := by decide +kernel
theorem dc_L_law_809 : decode code 809 = .ok (.i2l, 1) := by decide +kernel
theorem dc_L_law_810 : decode code 810 = .ok (.lcmp, 1) := by decide +kernel
theorem dc_L_law_811 : decode code 811 = .ok (.ifCond .eq 5, 3) := by decide +kernel
theorem dc_L_law_814 : decode code 814 = .ok (.iconst 0, 1) := by decide +kernel
theorem dc_L_law_815 : decode code 815 = .ok (.ireturn, 1) := by decide +kernel
theorem dc_L_law_816 : decode code 816 = .ok (.goto 523, 3) := by decide +kernel
theorem dc_L_law_819 : decode code 819 = .ok (.aload_n 1, 1) := by decide +kernel
theorem dc_L_law_820 : decode code 820 = .ok (.aload_n 0, 1) := by decide +kernel
theorem dc_L_law_821 : decode code 821 = .ok (.iload 4, 2) := by decide +kernel
theorem dc_L_law_823 : decode code 823 = .ok (.iconst 1, 1) := by decide +kernel
theorem dc_L_law_824 : decode code 824 = .ok (.iadd, 1) := by decide +kernel
theorem dc_L_law_825 : decode code 825 = .ok (.iaload, 1) := by decide +kernel
theorem dc_L_law_826 : decode code 826 = .ok (.aload_n 0, 1) := by decide +kernel
theorem dc_L_law_827 : decode code 827 = .ok (.iload 4, 2) := by decide +kernel
theorem dc_L_law_829 : decode code 829 = .ok (.iconst 2, 1) := by decide +kernel
theorem dc_L_law_830 : decode code 830 = .ok (.iadd, 1) := by decide +kernel
theorem dc_L_law_831 : decode code 831 = .ok (.iaload, 1) := by decide +kernel
theorem dc_L_law_832 : decode code 832 = .ok (.aload_n 3, 1) := by decide +kernel
theorem dc_L_law_833 : decode code 833 = .ok (.invokestatic 120, 3) := by decide +kernel
theorem dc_L_law_836 : decode code 836 = .ok (.istore 5, 2) := by decide +kernel
theorem dc_L_law_838 : decode code 838 = .ok (.aload_n 2, 1) := by decide +kernel
theorem dc_L_law_839 : decode code 839 = .ok (.aload_n 0, 1) := by decide +kernel
theorem dc_L_law_840 : decode code 840 = .ok (.iload 4, 2) := by decide +kernel
theorem dc_L_law_842 : decode code 842 = .ok (.iconst 1, 1) := by decide +kernel
theorem dc_L_law_843 : decode code 843 = .ok (.iadd, 1) := by decide +kernel
theorem dc_L_law_844 : decode code 844 = .ok (.iaload, 1) := by decide +kernel
theorem dc_L_law_845 : decode code 845 = .ok (.aload_n 0, 1) := by decide +kernel
theorem dc_L_law_846 : decode code 846 = .ok (.iload 4, 2) := by decide +kernel
theorem dc_L_law_848 : decode code 848 = .ok (.iconst 2, 1) := by decide +kernel
theorem dc_L_law_849 : decode code 849 = .ok (.iadd, 1) := by decide +kernel
theorem dc_L_law_850 : decode code 850 = .ok (.iaload, 1) := by decide +kernel
theorem dc_L_law_851 : decode code 851 = .ok (.invokevirtual 122, 3) := by decide +kernel
theorem dc_L_law_854 : decode code 854 = .ok (.istore 6, 2) := by decide +kernel
theorem dc_L_law_856 : decode code 856 = .ok (.aload_n 2, 1) := by decide +kernel
theorem dc_L_law_857 : decode code 857 = .ok (.invokevirtual 85, 3) := by decide +kernel
theorem dc_L_law_860 : decode code 860 = .ok (.iload 5, 2) := by decide +kernel
theorem dc_L_law_862 : decode code 862 = .ok (.if_icmp .eq 5, 3) := by decide +kernel
theorem dc_L_law_865 : decode code 865 = .ok (.iconst 0, 1) := by decide +kernel
theorem dc_L_law_866 : decode code 866 = .ok (.ireturn, 1) := by decide +kernel
theorem dc_L_law_867 : decode code 867 = .ok (.iload 5, 2) := by decide +kernel
theorem dc_L_law_869 : decode code 869 = .ok (.ifCond .ne 15, 3) := by decide +kernel
theorem dc_L_law_872 : decode code 872 = .ok (.aload_n 3, 1) := by decide +kernel
theorem dc_L_law_873 : decode code 873 = .ok (.iconst 0, 1) := by decide +kernel
theorem dc_L_law_874 : decode code 874 = .ok (.laload, 1) := by decide +kernel
theorem dc_L_law_875 : decode code 875 = .ok (.iload 6, 2) := by decide +kernel
theorem dc_L_law_877 : decode code 877 = .ok (.i2l, 1) := by decide +kernel
theorem dc_L_law_878 : decode code 878 = .ok (.lcmp, 1) := by decide +kernel
theorem dc_L_law_879 : decode code 879 = .ok (.ifCond .eq 5, 3) := by decide +kernel
theorem dc_L_law_882 : decode code 882 = .ok (.iconst 0, 1) := by decide +kernel
theorem dc_L_law_883 : decode code 883 = .ok (.ireturn, 1) := by decide +kernel
theorem dc_L_law_884 : decode code 884 = .ok (.goto 455, 3) := by decide +kernel
theorem dc_L_law_887 : decode code 887 = .ok (.aload_n 1, 1) := by decide +kernel
theorem dc_L_law_888 : decode code 888 = .ok (.invokevirtual 123, 3) := by decide +kernel
theorem dc_L_law_891 : decode code 891 = .ok (.aload_n 2, 1) := by decide +kernel
theorem dc_L_law_892 : decode code 892 = .ok (.invokevirtual 126, 3) := by decide +kernel
theorem dc_L_law_895 : decode code 895 = .ok (.if_icmp .eq 444, 3) := by decide +kernel
theorem dc_L_law_898 : decode code 898 = .ok (.iconst 0, 1) := by decide +kernel
theorem dc_L_law_899 : decode code 899 = .ok (.ireturn, 1) := by decide +kernel
theorem dc_L_law_900 : decode code 900 = .ok (.aload_n 1, 1) := by decide +kernel
theorem dc_L_law_901 : decode code 901 = .ok (.aload_n 0, 1) := by decide +kernel
theorem dc_L_law_902 : decode code 902 = .ok (.iload 4, 2) := by decide +kernel
theorem dc_L_law_904 : decode code 904 = .ok (.iconst 1, 1) := by decide +kernel
theorem dc_L_law_905 : decode code 905 = .ok (.iadd, 1) := by decide +kernel
theorem dc_L_law_906 : decode code 906 = .ok (.iaload, 1) := by decide +kernel
theorem dc_L_law_907 : decode code 907 = .ok (.aload_n 3, 1) := by decide +kernel
theorem dc_L_law_908 : decode code 908 = .ok (.invokestatic 127, 3) := by decide +kernel
theorem dc_L_law_911 : decode code 911 = .ok (.istore 5, 2) := by decide +kernel
theorem dc_L_law_913 : decode code 913 = .ok (.aload_n 2, 1) := by decide +kernel
theorem dc_L_law_914 : decode code 914 = .ok (.aload_n 0, 1) := by decide +kernel
theorem dc_L_law_915 : decode code 915 = .ok (.iload 4, 2) := by decide +kernel
theorem dc_L_law_917 : decode code 917 = .ok (.iconst 1, 1) := by decide +kernel
theorem dc_L_law_918 : decode code 918 = .ok (.iadd, 1) := by decide +kernel
theorem dc_L_law_919 : decode code 919 = .ok (.iaload, 1) := by decide +kernel
theorem dc_L_law_920 : decode code 920 = .ok (.invokevirtual 129, 3) := by decide +kernel
theorem dc_L_law_923 : decode code 923 = .ok (.istore 6, 2) := by decide +kernel
theorem dc_L_law_925 : decode code 925 = .ok (.aload_n 2, 1) := by decide +kernel
theorem dc_L_law_926 : decode code 926 = .ok (.invokevirtual 85, 3) := by decide +kernel
theorem dc_L_law_929 : decode code 929 = .ok (.iload 5, 2) := by decide +kernel
theorem dc_L_law_931 : decode code 931 = .ok (.if_icmp .eq 5, 3) := by decide +kernel
theorem dc_L_law_934 : decode code 934 = .ok (.iconst 0, 1) := by decide +kernel
theorem dc_L_law_935 : decode code 935 = .ok (.ireturn, 1) := by decide +kernel
theorem dc_L_law_936 : decode code 936 = .ok (.iload 5, 2) := by decide +kernel
theorem dc_L_law_938 : decode code 938 = .ok (.ifCond .ne 15, 3) := by decide +kernel
theorem dc_L_law_941 : decode code 941 = .ok (.aload_n 3, 1) := by decide +kernel
theorem dc_L_law_942 : decode code 942 = .ok (.iconst 0, 1) := by decide +kernel
theorem dc_L_law_943 : decode code 943 = .ok (.laload, 1) := by decide +kernel
theorem dc_L_law_944 : decode code 944 = .ok (.iload 6, 2) := by decide +kernel
theorem dc_L_law_946 : decode code 946 = .ok (.i2l, 1) := by decide +kernel
theorem dc_L_law_947 : decode code 947 = .ok (.lcmp, 1) := by decide +kernel
theorem dc_L_law_948 : decode code 948 = .ok (.ifCond .eq 5, 3) := by decide +kernel
theorem dc_L_law_951 : decode code 951 = .ok (.iconst 0, 1) := by decide +kernel
theorem dc_L_law_952 : decode code 952 = .ok (.ireturn, 1) := by decide +kernel
theorem dc_L_law_953 : decode code 953 = .ok (.goto 386, 3) := by decide +kernel
theorem dc_L_law_956 : decode code 956 = .ok (.aload_n 1, 1) := by decide +kernel
theorem dc_L_law_957 : decode code 957 = .ok (.invokevirtual 130, 3) := by decide +kernel
theorem dc_L_law_960 : decode code 960 = .ok (.aload_n 2, 1) := by decide +kernel
theorem dc_L_law_961 : decode code 961 = .ok (.invokevirtual 134, 3) := by decide +kernel
theorem dc_L_law_964 : decode code 964 = .ok (.lcmp, 1) := by decide +kernel
theorem dc_L_law_965 : decode code 965 = .ok (.ifCond .eq 374, 3) := by decide +kernel
theorem dc_L_law_968 : decode code 968 = .ok (.iconst 0, 1) := by decide +kernel
theorem dc_L_law_969 : decode code 969 = .ok (.ireturn, 1) := by decide +kernel
theorem dc_L_law_970 : decode code 970 = .ok (.aload_n 1, 1) := by decide +kernel
theorem dc_L_law_971 : decode code 971 = .ok (.invokevirtual 135, 3) := by decide +kernel
theorem dc_L_law_974 : decode code 974 = .ok (.aload_n 2, 1) := by decide +kernel
theorem dc_L_law_975 : decode code 975 = .ok (.invokevirtual 138, 3) := by decide +kernel
theorem dc_L_law_978 : decode code 978 = .ok (.if_icmp .eq 361, 3) := by decide +kernel
theorem dc_L_law_981 : decode code 981 = .ok (.iconst 0, 1) := by decide +kernel
theorem dc_L_law_982 : decode code 982 = .ok (.ireturn, 1) := by decide +kernel
theorem dc_L_law_983 : decode code 983 = .ok (.aload_n 1, 1) := by decide +kernel
theorem dc_L_law_984 : decode code 984 = .ok (.aload_n 0, 1) := by decide +kernel
theorem dc_L_law_985 : decode code 985 = .ok (.iload 4, 2) := by decide +kernel
theorem dc_L_law_987 : decode code 987 = .ok (.iconst 1, 1) := by decide +kernel
theorem dc_L_law_988 : decode code 988 = .ok (.iadd, 1) := by decide +kernel
theorem dc_L_law_989 : decode code 989 = .ok (.iaload, 1) := by decide +kernel
theorem dc_L_law_990 : decode code 990 = .ok (.aload_n 0, 1) := by decide +kernel
theorem dc_L_law_991 : decode code 991 = .ok (.iload 4, 2) := by decide +kernel
theorem dc_L_law_993 : decode code 993 = .ok (.iconst 2, 1) := by decide +kernel
theorem dc_L_law_994 : decode code 994 = .ok (.iadd, 1) := by decide +kernel
theorem dc_L_law_995 : decode code 995 = .ok (.iaload, 1) := by decide +kernel
theorem dc_L_law_996 : decode code 996 = .ok (.aload_n 0, 1) := by decide +kernel
theorem dc_L_law_997 : decode code 997 = .ok (.iload 4, 2) := by decide +kernel
theorem dc_L_law_999 : decode code 999 = .ok (.iconst 3, 1) := by decide +kernel
theorem dc_L_law_1000 : decode code 1000 = .ok (.iadd, 1) := by decide +kernel
theorem dc_L_law_1001 : decode code 1001 = .ok (.iaload, 1) := by decide +kernel
theorem dc_L_law_1002 : decode code 1002 = .ok (.aload_n 3, 1) := by decide +kernel
theorem dc_L_law_1003 : decode code 1003 = .ok (.invokestatic 139, 3) := by decide +kernel
theorem dc_L_law_1006 : decode code 1006 = .ok (.istore 5, 2) := by decide +kernel
theorem dc_L_law_1008 : decode code 1008 = .ok (.aload_n 2, 1) := by decide +kernel
theorem dc_L_law_1009 : decode code 1009 = .ok (.aload_n 0, 1) := by decide +kernel
theorem dc_L_law_1010 : decode code 1010 = .ok (.iload 4, 2) := by decide +kernel
theorem dc_L_law_1012 : decode code 1012 = .ok (.iconst 1, 1) := by decide +kernel
theorem dc_L_law_1013 : decode code 1013 = .ok (.iadd, 1) := by decide +kernel
theorem dc_L_law_1014 : decode code 1014 = .ok (.iaload, 1) := by decide +kernel
theorem dc_L_law_1015 : decode code 1015 = .ok (.aload_n 0, 1) := by decide +kernel
theorem dc_L_law_1016 : decode code 1016 = .ok (.iload 4, 2) := by decide +kernel
theorem dc_L_law_1018 : decode code 1018 = .ok (.iconst 2, 1) := by decide +kernel
theorem dc_L_law_1019 : decode code 1019 = .ok (.iadd, 1) := by decide +kernel
theorem dc_L_law_1020 : decode code 1020 = .ok (.iaload, 1) := by decide +kernel
theorem dc_L_law_1021 : decode code 1021 = .ok (.aload_n 0, 1) := by decide +kernel
theorem dc_L_law_1022 : decode code 1022 = .ok (.iload 4, 2) := by decide +kernel
theorem dc_L_law_1024 : decode code 1024 = .ok (.iconst 3, 1) := by decide +kernel
theorem dc_L_law_1025 : decode code 1025 = .ok (.iadd, 1) := by decide +kernel
theorem dc_L_law_1026 : decode code 1026 = .ok (.iaload, 1) := by decide +kernel
theorem dc_L_law_1027 : decode code 1027 = .ok (.invokevirtual 142, 3) := by decide +kernel
theorem dc_L_law_1030 : decode code 1030 = .ok (.istore 6, 2) := by decide +kernel
theorem dc_L_law_1032 : decode code 1032 = .ok (.aload_n 2, 1) := by decide +kernel
theorem dc_L_law_1033 : decode code 1033 = .ok (.invokevirtual 85, 3) := by decide +kernel
theorem dc_L_law_1036 : decode code 1036 = .ok (.iload 5, 2) := by decide +kernel
theorem dc_L_law_1038 : decode code 1038 = .ok (.if_icmp .eq 5, 3) := by decide +kernel
theorem dc_L_law_1041 : decode code 1041 = .ok (.iconst 0, 1) := by decide +kernel
theorem dc_L_law_1042 : decode code 1042 = .ok (.ireturn, 1) := by decide +kernel
theorem dc_L_law_1043 : decode code 1043 = .ok (.iload 5, 2) := by decide +kernel
theorem dc_L_law_1045 : decode code 1045 = .ok (.ifCond .ne 15, 3) := by decide +kernel
theorem dc_L_law_1048 : decode code 1048 = .ok (.aload_n 3, 1) := by decide +kernel
theorem dc_L_law_1049 : decode code 1049 = .ok (.iconst 0, 1) := by decide +kernel
theorem dc_L_law_1050 : decode code 1050 = .ok (.laload, 1) := by decide +kernel
theorem dc_L_law_1051 : decode code 1051 = .ok (.iload 6, 2) := by decide +kernel
theorem dc_L_law_1053 : decode code 1053 = .ok (.i2l, 1) := by decide +kernel
theorem dc_L_law_1054 : decode code 1054 = .ok (.lcmp, 1) := by decide +kernel
theorem dc_L_law_1055 : decode code 1055 = .ok (.ifCond .eq 5, 3) := by decide +kernel
theorem dc_L_law_1058 : decode code 1058 = .ok (.iconst 0, 1) := by decide +kernel
theorem dc_L_law_1059 : decode code 1059 = .ok (.ireturn, 1) := by decide +kernel
theorem dc_L_law_1060 : decode code 1060 = .ok (.goto 279, 3) := by decide +kernel
theorem dc_L_law_1063 : decode code 1063 = .ok (.aload_n 1, 1) := by decide +kernel
theorem dc_L_law_1064 : decode code 1064 = .ok (.invokevirtual 143, 3) := by decide +kernel
theorem dc_L_law_1067 : decode code 1067 = .ok (.aload_n 2, 1) := by decide +kernel
theorem dc_L_law_1068 : decode code 1068 = .ok (.invokevirtual 146, 3) := by decide +kernel
theorem dc_L_law_1071 : decode code 1071 = .ok (.if_icmp .eq 268, 3) := by decide +kernel
theorem dc_L_law_1074 : decode code 1074 = .ok (.iconst 0, 1) := by decide +kernel
theorem dc_L_law_1075 : decode code 1075 = .ok (.ireturn, 1) := by decide +kernel
theorem dc_L_law_1076 : decode code 1076 = .ok (.aload_n 1, 1) := by decide +kernel
theorem dc_L_law_1077 : decode code 1077 = .ok (.aload_n 0, 1) := by decide +kernel
theorem dc_L_law_1078 : decode code 1078 = .ok (.iload 4, 2) := by decide +kernel
theorem dc_L_law_1080 : decode code 1080 = .ok (.iconst 1, 1) := by decide +kernel
theorem dc_L_law_1081 : decode code 1081 = .ok (.iadd, 1) := by decide +kernel
theorem dc_L_law_1082 : decode code 1082 = .ok (.iaload, 1) := by decide +kernel
theorem dc_L_law_1083 : decode code 1083 = .ok (.aload_n 0, 1) := by decide +kernel
theorem dc_L_law_1084 : decode code 1084 = .ok (.iload 4, 2) := by decide +kernel
theorem dc_L_law_1086 : decode code 1086 = .ok (.iconst 2, 1) := by decide +kernel
theorem dc_L_law_1087 : decode code 1087 = .ok (.iadd, 1) := by decide +kernel
theorem dc_L_law_1088 : decode code 1088 = .ok (.iaload, 1) := by decide +kernel
theorem dc_L_law_1089 : decode code 1089 = .ok (.aload_n 3, 1) := by decide +kernel
theorem dc_L_law_1090 : decode code 1090 = .ok (.invokestatic 147, 3) := by decide +kernel
theorem dc_L_law_1093 : decode code 1093 = .ok (.istore 5, 2) := by decide +kernel
theorem dc_L_law_1095 : decode code 1095 = .ok (.aload_n 2, 1) := by decide +kernel
theorem dc_L_law_1096 : decode code 1096 = .ok (.aload_n 0, 1) := by decide +kernel
theorem dc_L_law_1097 : decode code 1097 = .ok (.iload 4, 2) := by decide +kernel
theorem dc_L_law_1099 : decode code 1099 = .ok (.iconst 1, 1) := by decide +kernel
theorem dc_L_law_1100 : decode code 1100 = .ok (.iadd, 1) := by decide +kernel
theorem dc_L_law_1101 : decode code 1101 = .ok (.iaload, 1) := by decide +kernel
theorem dc_L_law_1102 : decode code 1102 = .ok (.aload_n 0, 1) := by decide +kernel
theorem dc_L_law_1103 : decode code 1103 = .ok (.iload 4, 2) := by decide +kernel
theorem dc_L_law_1105 : decode code 1105 = .ok (.iconst 2, 1) := by decide +kernel
theorem dc_L_law_1106 : decode code 1106 = .ok (.iadd, 1) := by decide +kernel
theorem dc_L_law_1107 : decode code 1107 = .ok (.iaload, 1) := by decide +kernel
theorem dc_L_law_1108 : decode code 1108 = .ok (.invokevirtual 149, 3) := by decide +kernel
theorem dc_L_law_1111 : decode code 1111 = .ok (.istore 6, 2) := by decide +kernel
theorem dc_L_law_1113 : decode code 1113 = .ok (.aload_n 2, 1) := by decide +kernel
theorem dc_L_law_1114 : decode code 1114 = .ok (.invokevirtual 85, 3) := by decide +kernel
theorem dc_L_law_1117 : decode code 1117 = .ok (.iload 5, 2) := by decide +kernel
theorem dc_L_law_1119 : decode code 1119 = .ok (.if_icmp .eq 5, 3) := by decide +kernel
theorem dc_L_law_1122 : decode code 1122 = .ok (.iconst 0, 1) := by decide +kernel
theorem dc_L_law_1123 : decode code 1123 = .ok (.ireturn, 1) := by decide +kernel
theorem dc_L_law_1124 : decode code 1124 = .ok (.iload 5, 2) := by decide +kernel
theorem dc_L_law_1126 : decode code 1126 = .ok (.ifCond .ne 22, 3) := by decide +kernel
theorem dc_L_law_1129 : decode code 1129 = .ok (.aload_n 3, 1) := by decide +kernel
theorem dc_L_law_1130 : decode code 1130 = .ok (.iconst 0, 1) := by decide +kernel
theorem dc_L_law_1131 : decode code 1131 = .ok (.laload, 1) := by decide +kernel
theorem dc_L_law_1132 : decode code 1132 = .ok (.iload 6, 2) := by decide +kernel
theorem dc_L_law_1134 : decode code 1134 = .ok (.ifCond .eq 7, 3) := by decide +kernel
theorem dc_L_law_1137 : decode code 1137 = .ok (.lconst 1, 1) := by decide +kernel
theorem dc_L_law_1138 : decode code 1138 = .ok (.goto 4, 3) := by decide +kernel
theorem dc_L_law_1141 : decode code 1141 = .ok (.lconst 0, 1) := by decide +kernel
theorem dc_L_law_1142 : decode code 1142 = .ok (.lcmp, 1) := by decide +kernel
theorem dc_L_law_1143 : decode code 1143 = .ok (.ifCond .eq 5, 3) := by decide +kernel
theorem dc_L_law_1146 : decode code 1146 = .ok (.iconst 0, 1) := by decide +kernel
theorem dc_L_law_1147 : decode code 1147 = .ok (.ireturn, 1) := by decide +kernel
theorem dc_L_law_1148 : decode code 1148 = .ok (.goto 191, 3) := by decide +kernel
theorem dc_L_law_1151 : decode code 1151 = .ok (.aload_n 1, 1) := by decide +kernel
theorem dc_L_law_1152 : decode code 1152 = .ok (.invokevirtual 150, 3) := by decide +kernel
theorem dc_L_law_1155 : decode code 1155 = .ok (.aload_n 2, 1) := by decide +kernel
theorem dc_L_law_1156 : decode code 1156 = .ok (.invokevirtual 153, 3) := by decide +kernel
theorem dc_L_law_1159 : decode code 1159 = .ok (.if_icmp .eq 180, 3) := by decide +kernel
theorem dc_L_law_1162 : decode code 1162 = .ok (.iconst 0, 1) := by decide +kernel
theorem dc_L_law_1163 : decode code 1163 = .ok (.ireturn, 1) := by decide +kernel
theorem dc_L_law_1164 : decode code 1164 = .ok (.aload_n 1, 1) := by decide +kernel
theorem dc_L_law_1165 : decode code 1165 = .ok (.aload_n 0, 1) := by decide +kernel
theorem dc_L_law_1166 : decode code 1166 = .ok (.iload 4, 2) := by decide +kernel
theorem dc_L_law_1168 : decode code 1168 = .ok (.iconst 1, 1) := by decide +kernel
theorem dc_L_law_1169 : decode code 1169 = .ok (.iadd, 1) := by decide +kernel
theorem dc_L_law_1170 : decode code 1170 = .ok (.iaload, 1) := by decide +kernel
theorem dc_L_law_1171 : decode code 1171 = .ok (.aload_n 3, 1) := by decide +kernel
theorem dc_L_law_1172 : decode code 1172 = .ok (.invokestatic 154, 3) := by decide +kernel
theorem dc_L_law_1175 : decode code 1175 = .ok (.istore 5, 2) := by decide +kernel
theorem dc_L_law_1177 : decode code 1177 = .ok (.aload_n 2, 1) := by decide +kernel
theorem dc_L_law_1178 : decode code 1178 = .ok (.aload_n 0, 1) := by decide +kernel
theorem dc_L_law_1179 : decode code 1179 = .ok (.iload 4, 2) := by decide +kernel
theorem dc_L_law_1181 : decode code 1181 = .ok (.iconst 1, 1) := by decide +kernel
theorem dc_L_law_1182 : decode code 1182 = .ok (.iadd, 1) := by decide +kernel
theorem dc_L_law_1183 : decode code 1183 = .ok (.iaload, 1) := by decide +kernel
theorem dc_L_law_1184 : decode code 1184 = .ok (.invokevirtual 156, 3) := by decide +kernel
theorem dc_L_law_1187 : decode code 1187 = .ok (.istore 6, 2) := by decide +kernel
theorem dc_L_law_1189 : decode code 1189 = .ok (.aload_n 2, 1) := by decide +kernel
theorem dc_L_law_1190 : decode code 1190 = .ok (.invokevirtual 85, 3) := by decide +kernel
theorem dc_L_law_1193 : decode code 1193 = .ok (.iload 5, 2) := by decide +kernel
theorem dc_L_law_1195 : decode code 1195 = .ok (.if_icmp .eq 5, 3) := by decide +kernel
theorem dc_L_law_1198 : decode code 1198 = .ok (.iconst 0, 1) := by decide +kernel
theorem dc_L_law_1199 : decode code 1199 = .ok (.ireturn, 1) := by decide +kernel
theorem dc_L_law_1200 : decode code 1200 = .ok (.iload 5, 2) := by decide +kernel
theorem dc_L_law_1202 : decode code 1202 = .ok (.ifCond .ne 15, 3) := by decide +kernel
theorem dc_L_law_1205 : decode code 1205 = .ok (.aload_n 3, 1) := by decide +kernel
theorem dc_L_law_1206 : decode code 1206 = .ok (.iconst 0, 1) := by decide +kernel
theorem dc_L_law_1207 : decode code 1207 = .ok (.laload, 1) := by decide +kernel
theorem dc_L_law_1208 : decode code 1208 = .ok (.iload 6, 2) := by decide +kernel
theorem dc_L_law_1210 : decode code 1210 = .ok (.i2l, 1) := by decide +kernel
theorem dc_L_law_1211 : decode code 1211 = .ok (.lcmp, 1) := by decide +kernel
theorem dc_L_law_1212 : decode code 1212 = .ok (.ifCond .eq 5, 3) := by decide +kernel
theorem dc_L_law_1215 : decode code 1215 = .ok (.iconst 0, 1) := by decide +kernel
theorem dc_L_law_1216 : decode code 1216 = .ok (.ireturn, 1) := by decide +kernel
theorem dc_L_law_1217 : decode code 1217 = .ok (.goto 122, 3) := by decide +kernel
theorem dc_L_law_1220 : decode code 1220 = .ok (.aload_n 1, 1) := by decide +kernel
theorem dc_L_law_1221 : decode code 1221 = .ok (.aload_n 0, 1) := by decide +kernel
theorem dc_L_law_1222 : decode code 1222 = .ok (.iload 4, 2) := by decide +kernel
theorem dc_L_law_1224 : decode code 1224 = .ok (.iconst 1, 1) := by decide +kernel
theorem dc_L_law_1225 : decode code 1225 = .ok (.iadd, 1) := by decide +kernel
theorem dc_L_law_1226 : decode code 1226 = .ok (.iaload, 1) := by decide +kernel
theorem dc_L_law_1227 : decode code 1227 = .ok (.aload_n 3, 1) := by decide +kernel
theorem dc_L_law_1228 : decode code 1228 = .ok (.invokestatic 157, 3) := by decide +kernel
theorem dc_L_law_1231 : decode code 1231 = .ok (.istore 5, 2) := by decide +kernel
theorem dc_L_law_1233 : decode code 1233 = .ok (.aload_n 2, 1) := by decide +kernel
theorem dc_L_law_1234 : decode code 1234 = .ok (.aload_n 0, 1) := by decide +kernel
theorem dc_L_law_1235 : decode code 1235 = .ok (.iload 4, 2) := by decide +kernel
theorem dc_L_law_1237 : decode code 1237 = .ok (.iconst 1, 1) := by decide +kernel
theorem dc_L_law_1238 : decode code 1238 = .ok (.iadd, 1) := by decide +kernel
theorem dc_L_law_1239 : decode code 1239 = .ok (.iaload, 1) := by decide +kernel
theorem dc_L_law_1240 : decode code 1240 = .ok (.invokevirtual 159, 3) := by decide +kernel
theorem dc_L_law_1243 : decode code 1243 = .ok (.istore 6, 2) := by decide +kernel
theorem dc_L_law_1245 : decode code 1245 = .ok (.aload_n 2, 1) := by decide +kernel
theorem dc_L_law_1246 : decode code 1246 = .ok (.invokevirtual 85, 3) := by decide +kernel
theorem dc_L_law_1249 : decode code 1249 = .ok (.iload 5, 2) := by decide +kernel
theorem dc_L_law_1251 : decode code 1251 = .ok (.if_icmp .eq 5, 3) := by decide +kernel
theorem dc_L_law_1254 : decode code 1254 = .ok (.iconst 0, 1) := by decide +kernel
theorem dc_L_law_1255 : decode code 1255 = .ok (.ireturn, 1) := by decide +kernel
theorem dc_L_law_1256 : decode code 1256 = .ok (.iload 5, 2) := by decide +kernel
theorem dc_L_law_1258 : decode code 1258 = .ok (.ifCond .ne 22, 3) := by decide +kernel
theorem dc_L_law_1261 : decode code 1261 = .ok (.aload_n 3, 1) := by decide +kernel
theorem dc_L_law_1262 : decode code 1262 = .ok (.iconst 0, 1) := by decide +kernel
theorem dc_L_law_1263 : decode code 1263 = .ok (.laload, 1) := by decide +kernel
theorem dc_L_law_1264 : decode code 1264 = .ok (.iload 6, 2) := by decide +kernel
theorem dc_L_law_1266 : decode code 1266 = .ok (.ifCond .eq 7, 3) := by decide +kernel
theorem dc_L_law_1269 : decode code 1269 = .ok (.lconst 1, 1) := by decide +kernel
theorem dc_L_law_1270 : decode code 1270 = .ok (.goto 4, 3) := by decide +kernel
theorem dc_L_law_1273 : decode code 1273 = .ok (.lconst 0, 1) := by decide +kernel
theorem dc_L_law_1274 : decode code 1274 = .ok (.lcmp, 1) := by decide +kernel
theorem dc_L_law_1275 : decode code 1275 = .ok (.ifCond .eq 5, 3) := by decide +kernel
theorem dc_L_law_1278 : decode code 1278 = .ok (.iconst 0, 1) := by decide +kernel
theorem dc_L_law_1279 : decode code 1279 = .ok (.ireturn, 1) := by decide +kernel
theorem dc_L_law_1280 : decode code 1280 = .ok (.goto 59, 3) := by decide +kernel
theorem dc_L_law_1283 : decode code 1283 = .ok (.aload_n 1, 1) := by decide +kernel
theorem dc_L_law_1284 : decode code 1284 = .ok (.aload_n 0, 1) := by decide +kernel
theorem dc_L_law_1285 : decode code 1285 = .ok (.iload 4, 2) := by decide +kernel
theorem dc_L_law_1287 : decode code 1287 = .ok (.iconst 1, 1) := by decide +kernel
theorem dc_L_law_1288 : decode code 1288 = .ok (.iadd, 1) := by decide +kernel
theorem dc_L_law_1289 : decode code 1289 = .ok (.iaload, 1) := by decide +kernel
theorem dc_L_law_1290 : decode code 1290 = .ok (.aload_n 3, 1) := by decide +kernel
theorem dc_L_law_1291 : decode code 1291 = .ok (.invokestatic 160, 3) := by decide +kernel
theorem dc_L_law_1294 : decode code 1294 = .ok (.istore 5, 2) := by decide +kernel
theorem dc_L_law_1296 : decode code 1296 = .ok (.aload_n 2, 1) := by decide +kernel
theorem dc_L_law_1297 : decode code 1297 = .ok (.aload_n 0, 1) := by decide +kernel
theorem dc_L_law_1298 : decode code 1298 = .ok (.iload 4, 2) := by decide +kernel
theorem dc_L_law_1300 : decode code 1300 = .ok (.iconst 1, 1) := by decide +kernel
theorem dc_L_law_1301 : decode code 1301 = .ok (.iadd, 1) := by decide +kernel
theorem dc_L_law_1302 : decode code 1302 = .ok (.iaload, 1) := by decide +kernel
theorem dc_L_law_1303 : decode code 1303 = .ok (.invokevirtual 162, 3) := by decide +kernel
theorem dc_L_law_1306 : decode code 1306 = .ok (.istore 6, 2) := by decide +kernel
theorem dc_L_law_1308 : decode code 1308 = .ok (.aload_n 2, 1) := by decide +kernel
theorem dc_L_law_1309 : decode code 1309 = .ok (.invokevirtual 85, 3) := by decide +kernel
theorem dc_L_law_1312 : decode code 1312 = .ok (.iload 5, 2) := by decide +kernel
theorem dc_L_law_1314 : decode code 1314 = .ok (.if_icmp .eq 5, 3) := by decide +kernel
theorem dc_L_law_1317 : decode code 1317 = .ok (.iconst 0, 1) := by decide +kernel
theorem dc_L_law_1318 : decode code 1318 = .ok (.ireturn, 1) := by decide +kernel
theorem dc_L_law_1319 : decode code 1319 = .ok (.iload 5, 2) := by decide +kernel
theorem dc_L_law_1321 : decode code 1321 = .ok (.ifCond .ne 15, 3) := by decide +kernel
theorem dc_L_law_1324 : decode code 1324 = .ok (.aload_n 3, 1) := by decide +kernel
theorem dc_L_law_1325 : decode code 1325 = .ok (.iconst 0, 1) := by decide +kernel
theorem dc_L_law_1326 : decode code 1326 = .ok (.laload, 1) := by decide +kernel
theorem dc_L_law_1327 : decode code 1327 = .ok (.iload 6, 2) := by decide +kernel
theorem dc_L_law_1329 : decode code 1329 = .ok (.i2l, 1) := by decide +kernel
theorem dc_L_law_1330 : decode code 1330 = .ok (.lcmp, 1) := by decide +kernel
theorem dc_L_law_1331 : decode code 1331 = .ok (.ifCond .eq 5, 3) := by decide +kernel
theorem dc_L_law_1334 : decode code 1334 = .ok (.iconst 0, 1) := by decide +kernel
theorem dc_L_law_1335 : decode code 1335 = .ok (.ireturn, 1) := by decide +kernel
theorem dc_L_law_1336 : decode code 1336 = .ok (.goto 3, 3) := by decide +kernel
theorem dc_L_law_1339 : decode code 1339 = .ok (.iinc 4 4, 3) := by decide +kernel
theorem dc_L_law_1342 : decode code 1342 = .ok (.goto (-1319), 3) := by decide +kernel
theorem dc_L_law_1345 : decode code 1345 = .ok (.iconst 1, 1) := by decide +kernel
theorem dc_L_law_1346 : decode code 1346 = .ok (.ireturn, 1) := by decide +kernel
