theorem d_law_0 : dI code 0 (.new 7) 3 3 := by decide +kernel
theorem d_law_3 : dI code 3 .dup 1 4 := by decide +kernel
theorem d_law_4 : dI code 4 (.invokespecial 9) 3 7 := by decide +kernel
theorem d_law_7 : dI code 7 (.astore_n 1) 1 8 := by decide +kernel
theorem d_law_8 : dI code 8 (.new 10) 3 11 := by decide +kernel
theorem d_law_11 : dI code 11 .dup 1 12 := by decide +kernel
theorem d_law_12 : dI code 12 (.invokespecial 12) 3 15 := by decide +kernel
theorem d_law_15 : dI code 15 (.astore_n 2) 1 16 := by decide +kernel
theorem d_law_16 : dI code 16 (.iconst 0) 1 17 ∧ Int32.ofInt 0 = 0 := by decide +kernel
theorem d_law_17 : dI code 17 (.istore_n 3) 1 18 := by decide +kernel
theorem d_law_18 : dI code 18 (.iload_n 3) 1 19 := by decide +kernel
theorem d_law_19 : dI code 19 (.aload_n 0) 1 20 := by decide +kernel
theorem d_law_20 : dI code 20 .arraylength 1 21 := by decide +kernel
theorem d_law_21 : dI code 21 (.bipush 6) 2 23 ∧ (Int8.ofInt 6).toInt32 = 6 := by decide +kernel
theorem d_law_23 : dI code 23 .isub 1 24 := by decide +kernel
theorem d_law_24 : dJ code 24 (.if_icmp .gt 1220) 1220 27 1244 := by decide +kernel
theorem d_law_27 : dI code 27 (.aload_n 0) 1 28 := by decide +kernel
theorem d_law_28 : dI code 28 (.iload_n 3) 1 29 := by decide +kernel
theorem d_law_29 : dI code 29 .iaload 1 30 := by decide +kernel
theorem d_law_30 : dI code 30 (.bipush 63) 2 32 ∧ (Int8.ofInt 63).toInt32 = 63 := by decide +kernel
theorem d_law_32 : dI code 32 .iand 1 33 := by decide +kernel
theorem d_law_33 : decode code 33 = .ok (.tableswitch 1205 0 39 #[175, 208, 241, 274, 297, 330, 353, 386, 419, 442, 475, 498, 521, 544, 577, 590, 603, 626, 639, 652, 675, 708, 731, 754, 767, 790, 803, 826, 849, 882, 915, 958, 1001, 1064, 1097, 1120, 1133, 1146, 1159, 1182], 175) := by decide +kernel
theorem d_law_208 : dI code 208 (.aload_n 1) 1 209 := by decide +kernel
theorem d_law_209 : dI code 209 (.aload_n 0) 1 210 := by decide +kernel
theorem d_law_210 : dI code 210 (.iload_n 3) 1 211 := by decide +kernel
theorem d_law_211 : dI code 211 (.iconst 1) 1 212 ∧ Int32.ofInt 1 = 1 := by decide +kernel
theorem d_law_212 : dI code 212 .iadd 1 213 := by decide +kernel
theorem d_law_213 : dI code 213 .iaload 1 214 := by decide +kernel
theorem d_law_214 : dI code 214 (.aload_n 0) 1 215 := by decide +kernel
theorem d_law_215 : dI code 215 (.iload_n 3) 1 216 := by decide +kernel
theorem d_law_216 : dI code 216 (.iconst 2) 1 217 ∧ Int32.ofInt 2 = 2 := by decide +kernel
theorem d_law_217 : dI code 217 .iadd 1 218 := by decide +kernel
theorem d_law_218 : dI code 218 .iaload 1 219 := by decide +kernel
theorem d_law_219 : dI code 219 (.invokevirtual 13) 3 222 := by decide +kernel
theorem d_law_222 : dI code 222 (.aload_n 2) 1 223 := by decide +kernel
theorem d_law_223 : dI code 223 (.aload_n 0) 1 224 := by decide +kernel
theorem d_law_224 : dI code 224 (.iload_n 3) 1 225 := by decide +kernel
theorem d_law_225 : dI code 225 (.iconst 1) 1 226 ∧ Int32.ofInt 1 = 1 := by decide +kernel
theorem d_law_226 : dI code 226 .iadd 1 227 := by decide +kernel
theorem d_law_227 : dI code 227 .iaload 1 228 := by decide +kernel
theorem d_law_228 : dI code 228 (.aload_n 0) 1 229 := by decide +kernel
theorem d_law_229 : dI code 229 (.iload_n 3) 1 230 := by decide +kernel
theorem d_law_230 : dI code 230 (.iconst 2) 1 231 ∧ Int32.ofInt 2 = 2 := by decide +kernel
theorem d_law_231 : dI code 231 .iadd 1 232 := by decide +kernel
theorem d_law_232 : dI code 232 .iaload 1 233 := by decide +kernel
theorem d_law_233 : dI code 233 (.invokevirtual 17) 3 236 := by decide +kernel
theorem d_law_236 : dJ code 236 (.if_icmp .eq 1002) 1002 239 1238 := by decide +kernel
theorem d_law_239 : dI code 239 (.iconst 0) 1 240 ∧ Int32.ofInt 0 = 0 := by decide +kernel
theorem d_law_240 : decode code 240 = .ok (.ireturn, 1) := by decide +kernel
theorem d_law_241 : dI code 241 (.aload_n 1) 1 242 := by decide +kernel
theorem d_law_242 : dI code 242 (.aload_n 0) 1 243 := by decide +kernel
theorem d_law_243 : dI code 243 (.iload_n 3) 1 244 := by decide +kernel
theorem d_law_244 : dI code 244 (.iconst 1) 1 245 ∧ Int32.ofInt 1 = 1 := by decide +kernel
theorem d_law_245 : dI code 245 .iadd 1 246 := by decide +kernel
theorem d_law_246 : dI code 246 .iaload 1 247 := by decide +kernel
theorem d_law_247 : dI code 247 (.aload_n 0) 1 248 := by decide +kernel
theorem d_law_248 : dI code 248 (.iload_n 3) 1 249 := by decide +kernel
theorem d_law_249 : dI code 249 (.iconst 2) 1 250 ∧ Int32.ofInt 2 = 2 := by decide +kernel
theorem d_law_250 : dI code 250 .iadd 1 251 := by decide +kernel
theorem d_law_251 : dI code 251 .iaload 1 252 := by decide +kernel
theorem d_law_252 : dI code 252 (.invokevirtual 18) 3 255 := by decide +kernel
theorem d_law_255 : dI code 255 (.aload_n 2) 1 256 := by decide +kernel
theorem d_law_256 : dI code 256 (.aload_n 0) 1 257 := by decide +kernel
theorem d_law_257 : dI code 257 (.iload_n 3) 1 258 := by decide +kernel
theorem d_law_258 : dI code 258 (.iconst 1) 1 259 ∧ Int32.ofInt 1 = 1 := by decide +kernel
theorem d_law_259 : dI code 259 .iadd 1 260 := by decide +kernel
theorem d_law_260 : dI code 260 .iaload 1 261 := by decide +kernel
theorem d_law_261 : dI code 261 (.aload_n 0) 1 262 := by decide +kernel
theorem d_law_262 : dI code 262 (.iload_n 3) 1 263 := by decide +kernel
theorem d_law_263 : dI code 263 (.iconst 2) 1 264 ∧ Int32.ofInt 2 = 2 := by decide +kernel
theorem d_law_264 : dI code 264 .iadd 1 265 := by decide +kernel
theorem d_law_265 : dI code 265 .iaload 1 266 := by decide +kernel
theorem d_law_266 : dI code 266 (.invokevirtual 21) 3 269 := by decide +kernel
theorem d_law_269 : dJ code 269 (.if_icmp .eq 969) 969 272 1238 := by decide +kernel
theorem d_law_272 : dI code 272 (.iconst 0) 1 273 ∧ Int32.ofInt 0 = 0 := by decide +kernel
theorem d_law_273 : decode code 273 = .ok (.ireturn, 1) := by decide +kernel
theorem d_law_274 : dI code 274 (.aload_n 1) 1 275 := by decide +kernel
theorem d_law_275 : dI code 275 (.aload_n 0) 1 276 := by decide +kernel
theorem d_law_276 : dI code 276 (.iload_n 3) 1 277 := by decide +kernel
theorem d_law_277 : dI code 277 (.iconst 1) 1 278 ∧ Int32.ofInt 1 = 1 := by decide +kernel
theorem d_law_278 : dI code 278 .iadd 1 279 := by decide +kernel
theorem d_law_279 : dI code 279 .iaload 1 280 := by decide +kernel
theorem d_law_280 : dI code 280 (.aload_n 0) 1 281 := by decide +kernel
theorem d_law_281 : dI code 281 (.iload_n 3) 1 282 := by decide +kernel
theorem d_law_282 : dI code 282 (.iconst 2) 1 283 ∧ Int32.ofInt 2 = 2 := by decide +kernel
theorem d_law_283 : dI code 283 .iadd 1 284 := by decide +kernel
theorem d_law_284 : dI code 284 .iaload 1 285 := by decide +kernel
theorem d_law_285 : dI code 285 (.invokevirtual 22) 3 288 := by decide +kernel
theorem d_law_288 : dI code 288 (.aload_n 2) 1 289 := by decide +kernel
theorem d_law_289 : dI code 289 (.aload_n 0) 1 290 := by decide +kernel
theorem d_law_290 : dI code 290 (.iload_n 3) 1 291 := by decide +kernel
theorem d_law_291 : dI code 291 (.iconst 1) 1 292 ∧ Int32.ofInt 1 = 1 := by decide +kernel
theorem d_law_292 : dI code 292 .iadd 1 293 := by decide +kernel
theorem d_law_293 : dI code 293 .iaload 1 294 := by decide +kernel
theorem d_law_294 : dI code 294 (.aload_n 0) 1 295 := by decide +kernel
theorem d_law_295 : dI code 295 (.iload_n 3) 1 296 := by decide +kernel
theorem d_law_296 : dI code 296 (.iconst 2) 1 297 ∧ Int32.ofInt 2 = 2 := by decide +kernel
theorem d_law_297 : dI code 297 .iadd 1 298 := by decide +kernel
theorem d_law_298 : dI code 298 .iaload 1 299 := by decide +kernel
theorem d_law_299 : dI code 299 (.invokevirtual 25) 3 302 := by decide +kernel
theorem d_law_302 : dJ code 302 (.if_icmp .eq 936) 936 305 1238 := by decide +kernel
theorem d_law_305 : dI code 305 (.iconst 0) 1 306 ∧ Int32.ofInt 0 = 0 := by decide +kernel
theorem d_law_306 : decode code 306 = .ok (.ireturn, 1) := by decide +kernel
theorem d_law_307 : dI code 307 (.aload_n 1) 1 308 := by decide +kernel
theorem d_law_308 : dI code 308 (.aload_n 0) 1 309 := by decide +kernel
theorem d_law_309 : dI code 309 (.iload_n 3) 1 310 := by decide +kernel
theorem d_law_310 : dI code 310 (.iconst 1) 1 311 ∧ Int32.ofInt 1 = 1 := by decide +kernel
theorem d_law_311 : dI code 311 .iadd 1 312 := by decide +kernel
theorem d_law_312 : dI code 312 .iaload 1 313 := by decide +kernel
theorem d_law_313 : dI code 313 (.invokevirtual 26) 3 316 := by decide +kernel
theorem d_law_316 : dI code 316 (.aload_n 2) 1 317 := by decide +kernel
theorem d_law_317 : dI code 317 (.aload_n 0) 1 318 := by decide +kernel
theorem d_law_318 : dI code 318 (.iload_n 3) 1 319 := by decide +kernel
theorem d_law_319 : dI code 319 (.iconst 1) 1 320 ∧ Int32.ofInt 1 = 1 := by decide +kernel
theorem d_law_320 : dI code 320 .iadd 1 321 := by decide +kernel
theorem d_law_321 : dI code 321 .iaload 1 322 := by decide +kernel
theorem d_law_322 : dI code 322 (.invokevirtual 30) 3 325 := by decide +kernel
theorem d_law_325 : dJ code 325 (.if_icmp .eq 913) 913 328 1238 := by decide +kernel
theorem d_law_328 : dI code 328 (.iconst 0) 1 329 ∧ Int32.ofInt 0 = 0 := by decide +kernel
theorem d_law_329 : decode code 329 = .ok (.ireturn, 1) := by decide +kernel
theorem d_law_330 : dI code 330 (.aload_n 1) 1 331 := by decide +kernel
theorem d_law_331 : dI code 331 (.aload_n 0) 1 332 := by decide +kernel
theorem d_law_332 : dI code 332 (.iload_n 3) 1 333 := by decide +kernel
theorem d_law_333 : dI code 333 (.iconst 1) 1 334 ∧ Int32.ofInt 1 = 1 := by decide +kernel
theorem d_law_334 : dI code 334 .iadd 1 335 := by decide +kernel
theorem d_law_335 : dI code 335 .iaload 1 336 := by decide +kernel
theorem d_law_336 : dI code 336 (.aload_n 0) 1 337 := by decide +kernel
theorem d_law_337 : dI code 337 (.iload_n 3) 1 338 := by decide +kernel
theorem d_law_338 : dI code 338 (.iconst 2) 1 339 ∧ Int32.ofInt 2 = 2 := by decide +kernel
theorem d_law_339 : dI code 339 .iadd 1 340 := by decide +kernel
theorem d_law_340 : dI code 340 .iaload 1 341 := by decide +kernel
theorem d_law_341 : dI code 341 (.invokevirtual 31) 3 344 := by decide +kernel
theorem d_law_344 : dI code 344 (.aload_n 2) 1 345 := by decide +kernel
theorem d_law_345 : dI code 345 (.aload_n 0) 1 346 := by decide +kernel
theorem d_law_346 : dI code 346 (.iload_n 3) 1 347 := by decide +kernel
theorem d_law_347 : dI code 347 (.iconst 1) 1 348 ∧ Int32.ofInt 1 = 1 := by decide +kernel
theorem d_law_348 : dI code 348 .iadd 1 349 := by decide +kernel
theorem d_law_349 : dI code 349 .iaload 1 350 := by decide +kernel
theorem d_law_350 : dI code 350 (.aload_n 0) 1 351 := by decide +kernel
theorem d_law_351 : dI code 351 (.iload_n 3) 1 352 := by decide +kernel
theorem d_law_352 : dI code 352 (.iconst 2) 1 353 ∧ Int32.ofInt 2 = 2 := by decide +kernel
theorem d_law_353 : dI code 353 .iadd 1 354 := by decide +kernel
theorem d_law_354 : dI code 354 .iaload 1 355 := by decide +kernel
theorem d_law_355 : dI code 355 (.invokevirtual 34) 3 358 := by decide +kernel
theorem d_law_358 : dJ code 358 (.if_icmp .eq 880) 880 361 1238 := by decide +kernel
theorem d_law_361 : dI code 361 (.iconst 0) 1 362 ∧ Int32.ofInt 0 = 0 := by decide +kernel
theorem d_law_362 : decode code 362 = .ok (.ireturn, 1) := by decide +kernel
theorem d_law_363 : dI code 363 (.aload_n 1) 1 364 := by decide +kernel
theorem d_law_364 : dI code 364 (.aload_n 0) 1 365 := by decide +kernel
theorem d_law_365 : dI code 365 (.iload_n 3) 1 366 := by decide +kernel
theorem d_law_366 : dI code 366 (.iconst 1) 1 367 ∧ Int32.ofInt 1 = 1 := by decide +kernel
theorem d_law_367 : dI code 367 .iadd 1 368 := by decide +kernel
theorem d_law_368 : dI code 368 .iaload 1 369 := by decide +kernel
theorem d_law_369 : dI code 369 (.invokevirtual 35) 3 372 := by decide +kernel
theorem d_law_372 : dI code 372 (.aload_n 2) 1 373 := by decide +kernel
theorem d_law_373 : dI code 373 (.aload_n 0) 1 374 := by decide +kernel
theorem d_law_374 : dI code 374 (.iload_n 3) 1 375 := by decide +kernel
theorem d_law_375 : dI code 375 (.iconst 1) 1 376 ∧ Int32.ofInt 1 = 1 := by decide +kernel
theorem d_law_376 : dI code 376 .iadd 1 377 := by decide +kernel
theorem d_law_377 : dI code 377 .iaload 1 378 := by decide +kernel
theorem d_law_378 : dI code 378 (.invokevirtual 38) 3 381 := by decide +kernel
theorem d_law_381 : dJ code 381 (.if_icmp .eq 857) 857 384 1238 := by decide +kernel
theorem d_law_384 : dI code 384 (.iconst 0) 1 385 ∧ Int32.ofInt 0 = 0 := by decide +kernel
theorem d_law_385 : decode code 385 = .ok (.ireturn, 1) := by decide +kernel
theorem d_law_386 : dI code 386 (.aload_n 1) 1 387 := by decide +kernel
theorem d_law_387 : dI code 387 (.aload_n 0) 1 388 := by decide +kernel
theorem d_law_388 : dI code 388 (.iload_n 3) 1 389 := by decide +kernel
theorem d_law_389 : dI code 389 (.iconst 1) 1 390 ∧ Int32.ofInt 1 = 1 := by decide +kernel
theorem d_law_390 : dI code 390 .iadd 1 391 := by decide +kernel
theorem d_law_391 : dI code 391 .iaload 1 392 := by decide +kernel
theorem d_law_392 : dI code 392 (.aload_n 0) 1 393 := by decide +kernel
theorem d_law_393 : dI code 393 (.iload_n 3) 1 394 := by decide +kernel
theorem d_law_394 : dI code 394 (.iconst 2) 1 395 ∧ Int32.ofInt 2 = 2 := by decide +kernel
theorem d_law_395 : dI code 395 .iadd 1 396 := by decide +kernel
theorem d_law_396 : dI code 396 .iaload 1 397 := by decide +kernel
theorem d_law_397 : dI code 397 (.invokevirtual 39) 3 400 := by decide +kernel
theorem d_law_400 : dI code 400 (.aload_n 2) 1 401 := by decide +kernel
theorem d_law_401 : dI code 401 (.aload_n 0) 1 402 := by decide +kernel
theorem d_law_402 : dI code 402 (.iload_n 3) 1 403 := by decide +kernel
theorem d_law_403 : dI code 403 (.iconst 1) 1 404 ∧ Int32.ofInt 1 = 1 := by decide +kernel
theorem d_law_404 : dI code 404 .iadd 1 405 := by decide +kernel
theorem d_law_405 : dI code 405 .iaload 1 406 := by decide +kernel
theorem d_law_406 : dI code 406 (.aload_n 0) 1 407 := by decide +kernel
theorem d_law_407 : dI code 407 (.iload_n 3) 1 408 := by decide +kernel
theorem d_law_408 : dI code 408 (.iconst 2) 1 409 ∧ Int32.ofInt 2 = 2 := by decide +kernel
theorem d_law_409 : dI code 409 .iadd 1 410 := by decide +kernel
theorem d_law_410 : dI code 410 .iaload 1 411 := by decide +kernel
theorem d_law_411 : dI code 411 (.invokevirtual 42) 3 414 := by decide +kernel
theorem d_law_414 : dJ code 414 (.if_icmp .eq 824) 824 417 1238 := by decide +kernel
theorem d_law_417 : dI code 417 (.iconst 0) 1 418 ∧ Int32.ofInt 0 = 0 := by decide +kernel
theorem d_law_418 : decode code 418 = .ok (.ireturn, 1) := by decide +kernel
theorem d_law_419 : dI code 419 (.aload_n 1) 1 420 := by decide +kernel
theorem d_law_420 : dI code 420 (.aload_n 0) 1 421 := by decide +kernel
theorem d_law_421 : dI code 421 (.iload_n 3) 1 422 := by decide +kernel
theorem d_law_422 : dI code 422 (.iconst 1) 1 423 ∧ Int32.ofInt 1 = 1 := by decide +kernel
theorem d_law_423 : dI code 423 .iadd 1 424 := by decide +kernel
theorem d_law_424 : dI code 424 .iaload 1 425 := by decide +kernel
theorem d_law_425 : dI code 425 (.aload_n 0) 1 426 := by decide +kernel
theorem d_law_426 : dI code 426 (.iload_n 3) 1 427 := by decide +kernel
theorem d_law_427 : dI code 427 (.iconst 2) 1 428 ∧ Int32.ofInt 2 = 2 := by decide +kernel
theorem d_law_428 : dI code 428 .iadd 1 429 := by decide +kernel
theorem d_law_429 : dI code 429 .iaload 1 430 := by decide +kernel
theorem d_law_430 : dI code 430 (.invokevirtual 43) 3 433 := by decide +kernel
theorem d_law_433 : dI code 433 (.aload_n 2) 1 434 := by decide +kernel
theorem d_law_434 : dI code 434 (.aload_n 0) 1 435 := by decide +kernel
theorem d_law_435 : dI code 435 (.iload_n 3) 1 436 := by decide +kernel
theorem d_law_436 : dI code 436 (.iconst 1) 1 437 ∧ Int32.ofInt 1 = 1 := by decide +kernel
theorem d_law_437 : dI code 437 .iadd 1 438 := by decide +kernel
theorem d_law_438 : dI code 438 .iaload 1 439 := by decide +kernel
theorem d_law_439 : dI code 439 (.aload_n 0) 1 440 := by decide +kernel
theorem d_law_440 : dI code 440 (.iload_n 3) 1 441 := by decide +kernel
theorem d_law_441 : dI code 441 (.iconst 2) 1 442 ∧ Int32.ofInt 2 = 2 := by decide +kernel
theorem d_law_442 : dI code 442 .iadd 1 443 := by decide +kernel
theorem d_law_443 : dI code 443 .iaload 1 444 := by decide +kernel
theorem d_law_444 : dI code 444 (.invokevirtual 46) 3 447 := by decide +kernel
theorem d_law_447 : dJ code 447 (.if_icmp .eq 791) 791 450 1238 := by decide +kernel
theorem d_law_450 : dI code 450 (.iconst 0) 1 451 ∧ Int32.ofInt 0 = 0 := by decide +kernel
theorem d_law_451 : decode code 451 = .ok (.ireturn, 1) := by decide +kernel
theorem d_law_452 : dI code 452 (.aload_n 1) 1 453 := by decide +kernel
theorem d_law_453 : dI code 453 (.aload_n 0) 1 454 := by decide +kernel
theorem d_law_454 : dI code 454 (.iload_n 3) 1 455 := by decide +kernel
theorem d_law_455 : dI code 455 (.iconst 1) 1 456 ∧ Int32.ofInt 1 = 1 := by decide +kernel
theorem d_law_456 : dI code 456 .iadd 1 457 := by decide +kernel
theorem d_law_457 : dI code 457 .iaload 1 458 := by decide +kernel
theorem d_law_458 : dI code 458 (.invokevirtual 47) 3 461 := by decide +kernel
theorem d_law_461 : dI code 461 (.aload_n 2) 1 462 := by decide +kernel
theorem d_law_462 : dI code 462 (.aload_n 0) 1 463 := by decide +kernel
theorem d_law_463 : dI code 463 (.iload_n 3) 1 464 := by decide +kernel
theorem d_law_464 : dI code 464 (.iconst 1) 1 465 ∧ Int32.ofInt 1 = 1 := by decide +kernel
theorem d_law_465 : dI code 465 .iadd 1 466 := by decide +kernel
theorem d_law_466 : dI code 466 .iaload 1 467 := by decide +kernel
theorem d_law_467 : dI code 467 (.invokevirtual 50) 3 470 := by decide +kernel
theorem d_law_470 : dJ code 470 (.if_icmp .eq 768) 768 473 1238 := by decide +kernel
theorem d_law_473 : dI code 473 (.iconst 0) 1 474 ∧ Int32.ofInt 0 = 0 := by decide +kernel
theorem d_law_474 : decode code 474 = .ok (.ireturn, 1) := by decide +kernel
theorem d_law_475 : dI code 475 (.aload_n 1) 1 476 := by decide +kernel
theorem d_law_476 : dI code 476 (.aload_n 0) 1 477 := by decide +kernel
theorem d_law_477 : dI code 477 (.iload_n 3) 1 478 := by decide +kernel
theorem d_law_478 : dI code 478 (.iconst 1) 1 479 ∧ Int32.ofInt 1 = 1 := by decide +kernel
theorem d_law_479 : dI code 479 .iadd 1 480 := by decide +kernel
theorem d_law_480 : dI code 480 .iaload 1 481 := by decide +kernel
theorem d_law_481 : dI code 481 (.aload_n 0) 1 482 := by decide +kernel
theorem d_law_482 : dI code 482 (.iload_n 3) 1 483 := by decide +kernel
theorem d_law_483 : dI code 483 (.iconst 2) 1 484 ∧ Int32.ofInt 2 = 2 := by decide +kernel
theorem d_law_484 : dI code 484 .iadd 1 485 := by decide +kernel
theorem d_law_485 : dI code 485 .iaload 1 486 := by decide +kernel
theorem d_law_486 : dI code 486 (.invokevirtual 51) 3 489 := by decide +kernel
theorem d_law_489 : dI code 489 (.aload_n 2) 1 490 := by decide +kernel
theorem d_law_490 : dI code 490 (.aload_n 0) 1 491 := by decide +kernel
theorem d_law_491 : dI code 491 (.iload_n 3) 1 492 := by decide +kernel
theorem d_law_492 : dI code 492 (.iconst 1) 1 493 ∧ Int32.ofInt 1 = 1 := by decide +kernel
theorem d_law_493 : dI code 493 .iadd 1 494 := by decide +kernel
theorem d_law_494 : dI code 494 .iaload 1 495 := by decide +kernel
theorem d_law_495 : dI code 495 (.aload_n 0) 1 496 := by decide +kernel
theorem d_law_496 : dI code 496 (.iload_n 3) 1 497 := by decide +kernel
theorem d_law_497 : dI code 497 (.iconst 2) 1 498 ∧ Int32.ofInt 2 = 2 := by decide +kernel
theorem d_law_498 : dI code 498 .iadd 1 499 := by decide +kernel
theorem d_law_499 : dI code 499 .iaload 1 500 := by decide +kernel
theorem d_law_500 : dI code 500 (.invokevirtual 54) 3 503 := by decide +kernel
theorem d_law_503 : dJ code 503 (.if_icmp .eq 735) 735 506 1238 := by decide +kernel
theorem d_law_506 : dI code 506 (.iconst 0) 1 507 ∧ Int32.ofInt 0 = 0 := by decide +kernel
theorem d_law_507 : decode code 507 = .ok (.ireturn, 1) := by decide +kernel
theorem d_law_508 : dI code 508 (.aload_n 1) 1 509 := by decide +kernel
theorem d_law_509 : dI code 509 (.aload_n 0) 1 510 := by decide +kernel
theorem d_law_510 : dI code 510 (.iload_n 3) 1 511 := by decide +kernel
theorem d_law_511 : dI code 511 (.iconst 1) 1 512 ∧ Int32.ofInt 1 = 1 := by decide +kernel
theorem d_law_512 : dI code 512 .iadd 1 513 := by decide +kernel
theorem d_law_513 : dI code 513 .iaload 1 514 := by decide +kernel
theorem d_law_514 : dI code 514 (.invokevirtual 55) 3 517 := by decide +kernel
theorem d_law_517 : dI code 517 (.aload_n 2) 1 518 := by decide +kernel
theorem d_law_518 : dI code 518 (.aload_n 0) 1 519 := by decide +kernel
theorem d_law_519 : dI code 519 (.iload_n 3) 1 520 := by decide +kernel
theorem d_law_520 : dI code 520 (.iconst 1) 1 521 ∧ Int32.ofInt 1 = 1 := by decide +kernel
theorem d_law_521 : dI code 521 .iadd 1 522 := by decide +kernel
theorem d_law_522 : dI code 522 .iaload 1 523 := by decide +kernel
theorem d_law_523 : dI code 523 (.invokevirtual 58) 3 526 := by decide +kernel
theorem d_law_526 : dJ code 526 (.if_icmp .eq 712) 712 529 1238 := by decide +kernel
theorem d_law_529 : dI code 529 (.iconst 0) 1 530 ∧ Int32.ofInt 0 = 0 := by decide +kernel
theorem d_law_530 : decode code 530 = .ok (.ireturn, 1) := by decide +kernel
theorem d_law_531 : dI code 531 (.aload_n 1) 1 532 := by decide +kernel
theorem d_law_532 : dI code 532 (.aload_n 0) 1 533 := by decide +kernel
theorem d_law_533 : dI code 533 (.iload_n 3) 1 534 := by decide +kernel
theorem d_law_534 : dI code 534 (.iconst 1) 1 535 ∧ Int32.ofInt 1 = 1 := by decide +kernel
theorem d_law_535 : dI code 535 .iadd 1 536 := by decide +kernel
theorem d_law_536 : dI code 536 .iaload 1 537 := by decide +kernel
theorem d_law_537 : dI code 537 (.invokevirtual 59) 3 540 := by decide +kernel
theorem d_law_540 : dI code 540 (.aload_n 2) 1 541 := by decide +kernel
theorem d_law_541 : dI code 541 (.aload_n 0) 1 542 := by decide +kernel
theorem d_law_542 : dI code 542 (.iload_n 3) 1 543 := by decide +kernel
theorem d_law_543 : dI code 543 (.iconst 1) 1 544 ∧ Int32.ofInt 1 = 1 := by decide +kernel
theorem d_law_544 : dI code 544 .iadd 1 545 := by decide +kernel
theorem d_law_545 : dI code 545 .iaload 1 546 := by decide +kernel
theorem d_law_546 : dI code 546 (.invokevirtual 62) 3 549 := by decide +kernel
theorem d_law_549 : dJ code 549 (.if_icmp .eq 689) 689 552 1238 := by decide +kernel
theorem d_law_552 : dI code 552 (.iconst 0) 1 553 ∧ Int32.ofInt 0 = 0 := by decide +kernel
theorem d_law_553 : decode code 553 = .ok (.ireturn, 1) := by decide +kernel
theorem d_law_554 : dI code 554 (.aload_n 1) 1 555 := by decide +kernel
theorem d_law_555 : dI code 555 (.aload_n 0) 1 556 := by decide +kernel
theorem d_law_556 : dI code 556 (.iload_n 3) 1 557 := by decide +kernel
theorem d_law_557 : dI code 557 (.iconst 1) 1 558 ∧ Int32.ofInt 1 = 1 := by decide +kernel
theorem d_law_558 : dI code 558 .iadd 1 559 := by decide +kernel
theorem d_law_559 : dI code 559 .iaload 1 560 := by decide +kernel
theorem d_law_560 : dI code 560 (.invokevirtual 63) 3 563 := by decide +kernel
theorem d_law_563 : dI code 563 (.aload_n 2) 1 564 := by decide +kernel
theorem d_law_564 : dI code 564 (.aload_n 0) 1 565 := by decide +kernel
theorem d_law_565 : dI code 565 (.iload_n 3) 1 566 := by decide +kernel
theorem d_law_566 : dI code 566 (.iconst 1) 1 567 ∧ Int32.ofInt 1 = 1 := by decide +kernel
theorem d_law_567 : dI code 567 .iadd 1 568 := by decide +kernel
theorem d_law_568 : dI code 568 .iaload 1 569 := by decide +kernel
theorem d_law_569 : dI code 569 (.invokevirtual 66) 3 572 := by decide +kernel
theorem d_law_572 : dJ code 572 (.if_icmp .eq 666) 666 575 1238 := by decide +kernel
theorem d_law_575 : dI code 575 (.iconst 0) 1 576 ∧ Int32.ofInt 0 = 0 := by decide +kernel
theorem d_law_576 : decode code 576 = .ok (.ireturn, 1) := by decide +kernel
theorem d_law_577 : dI code 577 (.aload_n 1) 1 578 := by decide +kernel
theorem d_law_578 : dI code 578 (.aload_n 0) 1 579 := by decide +kernel
theorem d_law_579 : dI code 579 (.iload_n 3) 1 580 := by decide +kernel
theorem d_law_580 : dI code 580 (.iconst 1) 1 581 ∧ Int32.ofInt 1 = 1 := by decide +kernel
theorem d_law_581 : dI code 581 .iadd 1 582 := by decide +kernel
theorem d_law_582 : dI code 582 .iaload 1 583 := by decide +kernel
theorem d_law_583 : dI code 583 (.aload_n 0) 1 584 := by decide +kernel
theorem d_law_584 : dI code 584 (.iload_n 3) 1 585 := by decide +kernel
theorem d_law_585 : dI code 585 (.iconst 2) 1 586 ∧ Int32.ofInt 2 = 2 := by decide +kernel
theorem d_law_586 : dI code 586 .iadd 1 587 := by decide +kernel
theorem d_law_587 : dI code 587 .iaload 1 588 := by decide +kernel
theorem d_law_588 : dI code 588 (.invokevirtual 67) 3 591 := by decide +kernel
theorem d_law_591 : dI code 591 (.aload_n 2) 1 592 := by decide +kernel
theorem d_law_592 : dI code 592 (.aload_n 0) 1 593 := by decide +kernel
theorem d_law_593 : dI code 593 (.iload_n 3) 1 594 := by decide +kernel
theorem d_law_594 : dI code 594 (.iconst 1) 1 595 ∧ Int32.ofInt 1 = 1 := by decide +kernel
theorem d_law_595 : dI code 595 .iadd 1 596 := by decide +kernel
theorem d_law_596 : dI code 596 .iaload 1 597 := by decide +kernel
theorem d_law_597 : dI code 597 (.aload_n 0) 1 598 := by decide +kernel
theorem d_law_598 : dI code 598 (.iload_n 3) 1 599 := by decide +kernel
theorem d_law_599 : dI code 599 (.iconst 2) 1 600 ∧ Int32.ofInt 2 = 2 := by decide +kernel
theorem d_law_600 : dI code 600 .iadd 1 601 := by decide +kernel
theorem d_law_601 : dI code 601 .iaload 1 602 := by decide +kernel
theorem d_law_602 : dI code 602 (.invokevirtual 70) 3 605 := by decide +kernel
theorem d_law_605 : dJ code 605 (.if_icmp .eq 633) 633 608 1238 := by decide +kernel
theorem d_law_608 : dI code 608 (.iconst 0) 1 609 ∧ Int32.ofInt 0 = 0 := by decide +kernel
theorem d_law_609 : decode code 609 = .ok (.ireturn, 1) := by decide +kernel
theorem d_law_610 : dI code 610 (.aload_n 1) 1 611 := by decide +kernel
theorem d_law_611 : dI code 611 (.invokevirtual 71) 3 614 := by decide +kernel
theorem d_law_614 : dI code 614 (.aload_n 2) 1 615 := by decide +kernel
theorem d_law_615 : dI code 615 (.invokevirtual 75) 3 618 := by decide +kernel
theorem d_law_618 : dJ code 618 (.if_icmp .eq 620) 620 621 1238 := by decide +kernel
theorem d_law_621 : dI code 621 (.iconst 0) 1 622 ∧ Int32.ofInt 0 = 0 := by decide +kernel
theorem d_law_622 : decode code 622 = .ok (.ireturn, 1) := by decide +kernel
theorem d_law_623 : dI code 623 (.aload_n 1) 1 624 := by decide +kernel
theorem d_law_624 : dI code 624 (.invokevirtual 76) 3 627 := by decide +kernel
theorem d_law_627 : dI code 627 (.aload_n 2) 1 628 := by decide +kernel
theorem d_law_628 : dI code 628 (.invokevirtual 79) 3 631 := by decide +kernel
theorem d_law_631 : dJ code 631 (.if_icmp .eq 607) 607 634 1238 := by decide +kernel
theorem d_law_634 : dI code 634 (.iconst 0) 1 635 ∧ Int32.ofInt 0 = 0 := by decide +kernel
theorem d_law_635 : decode code 635 = .ok (.ireturn, 1) := by decide +kernel
theorem d_law_636 : dI code 636 (.aload_n 1) 1 637 := by decide +kernel
theorem d_law_637 : dI code 637 (.aload_n 0) 1 638 := by decide +kernel
theorem d_law_638 : dI code 638 (.iload_n 3) 1 639 := by decide +kernel
theorem d_law_639 : dI code 639 (.iconst 1) 1 640 ∧ Int32.ofInt 1 = 1 := by decide +kernel
theorem d_law_640 : dI code 640 .iadd 1 641 := by decide +kernel
theorem d_law_641 : dI code 641 .iaload 1 642 := by decide +kernel
theorem d_law_642 : dI code 642 (.invokevirtual 80) 3 645 := by decide +kernel
theorem d_law_645 : dI code 645 (.aload_n 2) 1 646 := by decide +kernel
theorem d_law_646 : dI code 646 (.aload_n 0) 1 647 := by decide +kernel
theorem d_law_647 : dI code 647 (.iload_n 3) 1 648 := by decide +kernel
theorem d_law_648 : dI code 648 (.iconst 1) 1 649 ∧ Int32.ofInt 1 = 1 := by decide +kernel
theorem d_law_649 : dI code 649 .iadd 1 650 := by decide +kernel
theorem d_law_650 : dI code 650 .iaload 1 651 := by decide +kernel
theorem d_law_651 : dI code 651 (.invokevirtual 83) 3 654 := by decide +kernel
theorem d_law_654 : dJ code 654 (.if_icmp .eq 584) 584 657 1238 := by decide +kernel
theorem d_law_657 : dI code 657 (.iconst 0) 1 658 ∧ Int32.ofInt 0 = 0 := by decide +kernel
theorem d_law_658 : decode code 658 = .ok (.ireturn, 1) := by decide +kernel
theorem d_law_659 : dI code 659 (.aload_n 1) 1 660 := by decide +kernel
theorem d_law_660 : dI code 660 (.invokevirtual 84) 3 663 := by decide +kernel
theorem d_law_663 : dI code 663 (.aload_n 2) 1 664 := by decide +kernel
theorem d_law_664 : dI code 664 (.invokevirtual 87) 3 667 := by decide +kernel
theorem d_law_667 : dJ code 667 (.if_icmp .eq 571) 571 670 1238 := by decide +kernel
theorem d_law_670 : dI code 670 (.iconst 0) 1 671 ∧ Int32.ofInt 0 = 0 := by decide +kernel
theorem d_law_671 : decode code 671 = .ok (.ireturn, 1) := by decide +kernel
theorem d_law_672 : dI code 672 (.aload_n 1) 1 673 := by decide +kernel
theorem d_law_673 : dI code 673 (.invokevirtual 88) 3 676 := by decide +kernel
theorem d_law_676 : dI code 676 (.aload_n 2) 1 677 := by decide +kernel
theorem d_law_677 : dI code 677 (.invokevirtual 91) 3 680 := by decide +kernel
theorem d_law_680 : dJ code 680 (.if_icmp .eq 558) 558 683 1238 := by decide +kernel
theorem d_law_683 : dI code 683 (.iconst 0) 1 684 ∧ Int32.ofInt 0 = 0 := by decide +kernel
theorem d_law_684 : decode code 684 = .ok (.ireturn, 1) := by decide +kernel
theorem d_law_685 : dI code 685 (.aload_n 1) 1 686 := by decide +kernel
theorem d_law_686 : dI code 686 (.aload_n 0) 1 687 := by decide +kernel
theorem d_law_687 : dI code 687 (.iload_n 3) 1 688 := by decide +kernel
theorem d_law_688 : dI code 688 (.iconst 1) 1 689 ∧ Int32.ofInt 1 = 1 := by decide +kernel
theorem d_law_689 : dI code 689 .iadd 1 690 := by decide +kernel
theorem d_law_690 : dI code 690 .iaload 1 691 := by decide +kernel
theorem d_law_691 : dI code 691 (.invokevirtual 92) 3 694 := by decide +kernel
theorem d_law_694 : dI code 694 (.aload_n 2) 1 695 := by decide +kernel
theorem d_law_695 : dI code 695 (.aload_n 0) 1 696 := by decide +kernel
theorem d_law_696 : dI code 696 (.iload_n 3) 1 697 := by decide +kernel
theorem d_law_697 : dI code 697 (.iconst 1) 1 698 ∧ Int32.ofInt 1 = 1 := by decide +kernel
theorem d_law_698 : dI code 698 .iadd 1 699 := by decide +kernel
theorem d_law_699 : dI code 699 .iaload 1 700 := by decide +kernel
theorem d_law_700 : dI code 700 (.invokevirtual 95) 3 703 := by decide +kernel
theorem d_law_703 : dJ code 703 (.if_icmp .eq 535) 535 706 1238 := by decide +kernel
theorem d_law_706 : dI code 706 (.iconst 0) 1 707 ∧ Int32.ofInt 0 = 0 := by decide +kernel
theorem d_law_707 : decode code 707 = .ok (.ireturn, 1) := by decide +kernel
theorem d_law_708 : dI code 708 (.aload_n 1) 1 709 := by decide +kernel
theorem d_law_709 : dI code 709 (.aload_n 0) 1 710 := by decide +kernel
theorem d_law_710 : dI code 710 (.iload_n 3) 1 711 := by decide +kernel
theorem d_law_711 : dI code 711 (.iconst 1) 1 712 ∧ Int32.ofInt 1 = 1 := by decide +kernel
theorem d_law_712 : dI code 712 .iadd 1 713 := by decide +kernel
theorem d_law_713 : dI code 713 .iaload 1 714 := by decide +kernel
theorem d_law_714 : dI code 714 (.aload_n 0) 1 715 := by decide +kernel
theorem d_law_715 : dI code 715 (.iload_n 3) 1 716 := by decide +kernel
theorem d_law_716 : dI code 716 (.iconst 2) 1 717 ∧ Int32.ofInt 2 = 2 := by decide +kernel
theorem d_law_717 : dI code 717 .iadd 1 718 := by decide +kernel
theorem d_law_718 : dI code 718 .iaload 1 719 := by decide +kernel
theorem d_law_719 : dI code 719 (.invokevirtual 96) 3 722 := by decide +kernel
theorem d_law_722 : dI code 722 (.aload_n 2) 1 723 := by decide +kernel
theorem d_law_723 : dI code 723 (.aload_n 0) 1 724 := by decide +kernel
theorem d_law_724 : dI code 724 (.iload_n 3) 1 725 := by decide +kernel
theorem d_law_725 : dI code 725 (.iconst 1) 1 726 ∧ Int32.ofInt 1 = 1 := by decide +kernel
theorem d_law_726 : dI code 726 .iadd 1 727 := by decide +kernel
theorem d_law_727 : dI code 727 .iaload 1 728 := by decide +kernel
theorem d_law_728 : dI code 728 (.aload_n 0) 1 729 := by decide +kernel
theorem d_law_729 : dI code 729 (.iload_n 3) 1 730 := by decide +kernel
theorem d_law_730 : dI code 730 (.iconst 2) 1 731 ∧ Int32.ofInt 2 = 2 := by decide +kernel
theorem d_law_731 : dI code 731 .iadd 1 732 := by decide +kernel
theorem d_law_732 : dI code 732 .iaload 1 733 := by decide +kernel
theorem d_law_733 : dI code 733 (.invokevirtual 99) 3 736 := by decide +kernel
theorem d_law_736 : dJ code 736 (.if_icmp .eq 502) 502 739 1238 := by decide +kernel
theorem d_law_739 : dI code 739 (.iconst 0) 1 740 ∧ Int32.ofInt 0 = 0 := by decide +kernel
theorem d_law_740 : decode code 740 = .ok (.ireturn, 1) := by decide +kernel
theorem d_law_741 : dI code 741 (.aload_n 1) 1 742 := by decide +kernel
theorem d_law_742 : dI code 742 (.aload_n 0) 1 743 := by decide +kernel
theorem d_law_743 : dI code 743 (.iload_n 3) 1 744 := by decide +kernel
theorem d_law_744 : dI code 744 (.iconst 1) 1 745 ∧ Int32.ofInt 1 = 1 := by decide +kernel
theorem d_law_745 : dI code 745 .iadd 1 746 := by decide +kernel
theorem d_law_746 : dI code 746 .iaload 1 747 := by decide +kernel
theorem d_law_747 : dI code 747 (.invokevirtual 100) 3 750 := by decide +kernel
theorem d_law_750 : dI code 750 (.aload_n 2) 1 751 := by decide +kernel
theorem d_law_751 : dI code 751 (.aload_n 0) 1 752 := by decide +kernel
theorem d_law_752 : dI code 752 (.iload_n 3) 1 753 := by decide +kernel
theorem d_law_753 : dI code 753 (.iconst 1) 1 754 ∧ Int32.ofInt 1 = 1 := by decide +kernel
theorem d_law_754 : dI code 754 .iadd 1 755 := by decide +kernel
theorem d_law_755 : dI code 755 .iaload 1 756 := by decide +kernel
theorem d_law_756 : dI code 756 (.invokevirtual 103) 3 759 := by decide +kernel
theorem d_law_759 : dJ code 759 (.if_icmp .eq 479) 479 762 1238 := by decide +kernel
theorem d_law_762 : dI code 762 (.iconst 0) 1 763 ∧ Int32.ofInt 0 = 0 := by decide +kernel
theorem d_law_763 : decode code 763 = .ok (.ireturn, 1) := by decide +kernel
theorem d_law_764 : dI code 764 (.aload_n 1) 1 765 := by decide +kernel
theorem d_law_765 : dI code 765 (.aload_n 0) 1 766 := by decide +kernel
theorem d_law_766 : dI code 766 (.iload_n 3) 1 767 := by decide +kernel
theorem d_law_767 : dI code 767 (.iconst 1) 1 768 ∧ Int32.ofInt 1 = 1 := by decide +kernel
theorem d_law_768 : dI code 768 .iadd 1 769 := by decide +kernel
theorem d_law_769 : dI code 769 .iaload 1 770 := by decide +kernel
theorem d_law_770 : dI code 770 (.invokevirtual 104) 3 773 := by decide +kernel
theorem d_law_773 : dI code 773 (.aload_n 2) 1 774 := by decide +kernel
theorem d_law_774 : dI code 774 (.aload_n 0) 1 775 := by decide +kernel
theorem d_law_775 : dI code 775 (.iload_n 3) 1 776 := by decide +kernel
theorem d_law_776 : dI code 776 (.iconst 1) 1 777 ∧ Int32.ofInt 1 = 1 := by decide +kernel
theorem d_law_777 : dI code 777 .iadd 1 778 := by decide +kernel
theorem d_law_778 : dI code 778 .iaload 1 779 := by decide +kernel
theorem d_law_779 : dI code 779 (.invokevirtual 107) 3 782 := by decide +kernel
theorem d_law_782 : dJ code 782 (.if_icmp .eq 456) 456 785 1238 := by decide +kernel
theorem d_law_785 : dI code 785 (.iconst 0) 1 786 ∧ Int32.ofInt 0 = 0 := by decide +kernel
theorem d_law_786 : decode code 786 = .ok (.ireturn, 1) := by decide +kernel
theorem d_law_787 : dI code 787 (.aload_n 1) 1 788 := by decide +kernel
theorem d_law_788 : dI code 788 (.invokevirtual 108) 3 791 := by decide +kernel
theorem d_law_791 : dI code 791 (.aload_n 2) 1 792 := by decide +kernel
theorem d_law_792 : dI code 792 (.invokevirtual 111) 3 795 := by decide +kernel
theorem d_law_795 : dJ code 795 (.if_icmp .eq 443) 443 798 1238 := by decide +kernel
theorem d_law_798 : dI code 798 (.iconst 0) 1 799 ∧ Int32.ofInt 0 = 0 := by decide +kernel
theorem d_law_799 : decode code 799 = .ok (.ireturn, 1) := by decide +kernel
theorem d_law_800 : dI code 800 (.aload_n 1) 1 801 := by decide +kernel
theorem d_law_801 : dI code 801 (.aload_n 0) 1 802 := by decide +kernel
theorem d_law_802 : dI code 802 (.iload_n 3) 1 803 := by decide +kernel
theorem d_law_803 : dI code 803 (.iconst 1) 1 804 ∧ Int32.ofInt 1 = 1 := by decide +kernel
theorem d_law_804 : dI code 804 .iadd 1 805 := by decide +kernel
theorem d_law_805 : dI code 805 .iaload 1 806 := by decide +kernel
theorem d_law_806 : dI code 806 (.invokevirtual 112) 3 809 := by decide +kernel
theorem d_law_809 : dI code 809 (.aload_n 2) 1 810 := by decide +kernel
theorem d_law_810 : dI code 810 (.aload_n 0) 1 811 := by decide +kernel
theorem d_law_811 : dI code 811 (.iload_n 3) 1 812 := by decide +kernel
theorem d_law_812 : dI code 812 (.iconst 1) 1 813 ∧ Int32.ofInt 1 = 1 := by decide +kernel
theorem d_law_813 : dI code 813 .iadd 1 814 := by decide +kernel
theorem d_law_814 : dI code 814 .iaload 1 815 := by decide +kernel
theorem d_law_815 : dI code 815 (.invokevirtual 115) 3 818 := by decide +kernel
theorem d_law_818 : dJ code 818 (.if_icmp .eq 420) 420 821 1238 := by decide +kernel
theorem d_law_821 : dI code 821 (.iconst 0) 1 822 ∧ Int32.ofInt 0 = 0 := by decide +kernel
theorem d_law_822 : decode code 822 = .ok (.ireturn, 1) := by decide +kernel
theorem d_law_823 : dI code 823 (.aload_n 1) 1 824 := by decide +kernel
theorem d_law_824 : dI code 824 (.invokevirtual 116) 3 827 := by decide +kernel
theorem d_law_827 : dI code 827 (.aload_n 2) 1 828 := by decide +kernel
theorem d_law_828 : dI code 828 (.invokevirtual 119) 3 831 := by decide +kernel
theorem d_law_831 : dJ code 831 (.if_icmp .eq 407) 407 834 1238 := by decide +kernel
theorem d_law_834 : dI code 834 (.iconst 0) 1 835 ∧ Int32.ofInt 0 = 0 := by decide +kernel
theorem d_law_835 : decode code 835 = .ok (.ireturn, 1) := by decide +kernel
theorem d_law_836 : dI code 836 (.aload_n 1) 1 837 := by decide +kernel
theorem d_law_837 : dI code 837 (.aload_n 0) 1 838 := by decide +kernel
theorem d_law_838 : dI code 838 (.iload_n 3) 1 839 := by decide +kernel
theorem d_law_839 : dI code 839 (.iconst 1) 1 840 ∧ Int32.ofInt 1 = 1 := by decide +kernel
theorem d_law_840 : dI code 840 .iadd 1 841 := by decide +kernel
theorem d_law_841 : dI code 841 .iaload 1 842 := by decide +kernel
theorem d_law_842 : dI code 842 (.invokevirtual 120) 3 845 := by decide +kernel
theorem d_law_845 : dI code 845 (.aload_n 2) 1 846 := by decide +kernel
theorem d_law_846 : dI code 846 (.aload_n 0) 1 847 := by decide +kernel
theorem d_law_847 : dI code 847 (.iload_n 3) 1 848 := by decide +kernel
theorem d_law_848 : dI code 848 (.iconst 1) 1 849 ∧ Int32.ofInt 1 = 1 := by decide +kernel
theorem d_law_849 : dI code 849 .iadd 1 850 := by decide +kernel
theorem d_law_850 : dI code 850 .iaload 1 851 := by decide +kernel
theorem d_law_851 : dI code 851 (.invokevirtual 123) 3 854 := by decide +kernel
theorem d_law_854 : dJ code 854 (.if_icmp .eq 384) 384 857 1238 := by decide +kernel
theorem d_law_857 : dI code 857 (.iconst 0) 1 858 ∧ Int32.ofInt 0 = 0 := by decide +kernel
theorem d_law_858 : decode code 858 = .ok (.ireturn, 1) := by decide +kernel
theorem d_law_859 : dI code 859 (.aload_n 1) 1 860 := by decide +kernel
theorem d_law_860 : dI code 860 (.aload_n 0) 1 861 := by decide +kernel
theorem d_law_861 : dI code 861 (.iload_n 3) 1 862 := by decide +kernel
theorem d_law_862 : dI code 862 (.iconst 1) 1 863 ∧ Int32.ofInt 1 = 1 := by decide +kernel
theorem d_law_863 : dI code 863 .iadd 1 864 := by decide +kernel
theorem d_law_864 : dI code 864 .iaload 1 865 := by decide +kernel
theorem d_law_865 : dI code 865 (.invokevirtual 124) 3 868 := by decide +kernel
theorem d_law_868 : dI code 868 (.aload_n 2) 1 869 := by decide +kernel
theorem d_law_869 : dI code 869 (.aload_n 0) 1 870 := by decide +kernel
theorem d_law_870 : dI code 870 (.iload_n 3) 1 871 := by decide +kernel
theorem d_law_871 : dI code 871 (.iconst 1) 1 872 ∧ Int32.ofInt 1 = 1 := by decide +kernel
theorem d_law_872 : dI code 872 .iadd 1 873 := by decide +kernel
theorem d_law_873 : dI code 873 .iaload 1 874 := by decide +kernel
theorem d_law_874 : dI code 874 (.invokevirtual 127) 3 877 := by decide +kernel
theorem d_law_877 : dJ code 877 (.if_icmp .eq 361) 361 880 1238 := by decide +kernel
theorem d_law_880 : dI code 880 (.iconst 0) 1 881 ∧ Int32.ofInt 0 = 0 := by decide +kernel
theorem d_law_881 : decode code 881 = .ok (.ireturn, 1) := by decide +kernel
theorem d_law_882 : dI code 882 (.aload_n 1) 1 883 := by decide +kernel
theorem d_law_883 : dI code 883 (.aload_n 0) 1 884 := by decide +kernel
theorem d_law_884 : dI code 884 (.iload_n 3) 1 885 := by decide +kernel
theorem d_law_885 : dI code 885 (.iconst 1) 1 886 ∧ Int32.ofInt 1 = 1 := by decide +kernel
theorem d_law_886 : dI code 886 .iadd 1 887 := by decide +kernel
theorem d_law_887 : dI code 887 .iaload 1 888 := by decide +kernel
theorem d_law_888 : dI code 888 (.aload_n 0) 1 889 := by decide +kernel
theorem d_law_889 : dI code 889 (.iload_n 3) 1 890 := by decide +kernel
theorem d_law_890 : dI code 890 (.iconst 2) 1 891 ∧ Int32.ofInt 2 = 2 := by decide +kernel
theorem d_law_891 : dI code 891 .iadd 1 892 := by decide +kernel
theorem d_law_892 : dI code 892 .iaload 1 893 := by decide +kernel
theorem d_law_893 : dI code 893 (.invokevirtual 128) 3 896 := by decide +kernel
theorem d_law_896 : dI code 896 (.aload_n 2) 1 897 := by decide +kernel
theorem d_law_897 : dI code 897 (.aload_n 0) 1 898 := by decide +kernel
theorem d_law_898 : dI code 898 (.iload_n 3) 1 899 := by decide +kernel
theorem d_law_899 : dI code 899 (.iconst 1) 1 900 ∧ Int32.ofInt 1 = 1 := by decide +kernel
theorem d_law_900 : dI code 900 .iadd 1 901 := by decide +kernel
theorem d_law_901 : dI code 901 .iaload 1 902 := by decide +kernel
theorem d_law_902 : dI code 902 (.aload_n 0) 1 903 := by decide +kernel
theorem d_law_903 : dI code 903 (.iload_n 3) 1 904 := by decide +kernel
theorem d_law_904 : dI code 904 (.iconst 2) 1 905 ∧ Int32.ofInt 2 = 2 := by decide +kernel
theorem d_law_905 : dI code 905 .iadd 1 906 := by decide +kernel
theorem d_law_906 : dI code 906 .iaload 1 907 := by decide +kernel
theorem d_law_907 : dI code 907 (.invokevirtual 131) 3 910 := by decide +kernel
theorem d_law_910 : dJ code 910 (.if_icmp .eq 328) 328 913 1238 := by decide +kernel
theorem d_law_913 : dI code 913 (.iconst 0) 1 914 ∧ Int32.ofInt 0 = 0 := by decide +kernel
theorem d_law_914 : decode code 914 = .ok (.ireturn, 1) := by decide +kernel
theorem d_law_915 : dI code 915 (.aload_n 1) 1 916 := by decide +kernel
theorem d_law_916 : dI code 916 (.aload_n 0) 1 917 := by decide +kernel
theorem d_law_917 : dI code 917 (.iload_n 3) 1 918 := by decide +kernel
theorem d_law_918 : dI code 918 (.iconst 1) 1 919 ∧ Int32.ofInt 1 = 1 := by decide +kernel
theorem d_law_919 : dI code 919 .iadd 1 920 := by decide +kernel
theorem d_law_920 : dI code 920 .iaload 1 921 := by decide +kernel
theorem d_law_921 : dI code 921 (.aload_n 0) 1 922 := by decide +kernel
theorem d_law_922 : dI code 922 (.iload_n 3) 1 923 := by decide +kernel
theorem d_law_923 : dI code 923 (.iconst 2) 1 924 ∧ Int32.ofInt 2 = 2 := by decide +kernel
theorem d_law_924 : dI code 924 .iadd 1 925 := by decide +kernel
theorem d_law_925 : dI code 925 .iaload 1 926 := by decide +kernel
theorem d_law_926 : dI code 926 (.invokevirtual 132) 3 929 := by decide +kernel
theorem d_law_929 : dI code 929 (.aload_n 2) 1 930 := by decide +kernel
theorem d_law_930 : dI code 930 (.aload_n 0) 1 931 := by decide +kernel
theorem d_law_931 : dI code 931 (.iload_n 3) 1 932 := by decide +kernel
theorem d_law_932 : dI code 932 (.iconst 1) 1 933 ∧ Int32.ofInt 1 = 1 := by decide +kernel
theorem d_law_933 : dI code 933 .iadd 1 934 := by decide +kernel
theorem d_law_934 : dI code 934 .iaload 1 935 := by decide +kernel
theorem d_law_935 : dI code 935 (.aload_n 0) 1 936 := by decide +kernel
theorem d_law_936 : dI code 936 (.iload_n 3) 1 937 := by decide +kernel
theorem d_law_937 : dI code 937 (.iconst 2) 1 938 ∧ Int32.ofInt 2 = 2 := by decide +kernel
theorem d_law_938 : dI code 938 .iadd 1 939 := by decide +kernel
theorem d_law_939 : dI code 939 .iaload 1 940 := by decide +kernel
theorem d_law_940 : dI code 940 (.invokevirtual 135) 3 943 := by decide +kernel
theorem d_law_943 : dJ code 943 (.if_icmp .eq 295) 295 946 1238 := by decide +kernel
theorem d_law_946 : dI code 946 (.iconst 0) 1 947 ∧ Int32.ofInt 0 = 0 := by decide +kernel
theorem d_law_947 : decode code 947 = .ok (.ireturn, 1) := by decide +kernel
theorem d_law_948 : dI code 948 (.aload_n 1) 1 949 := by decide +kernel
theorem d_law_949 : dI code 949 (.aload_n 0) 1 950 := by decide +kernel
theorem d_law_950 : dI code 950 (.iload_n 3) 1 951 := by decide +kernel
theorem d_law_951 : dI code 951 (.iconst 1) 1 952 ∧ Int32.ofInt 1 = 1 := by decide +kernel
theorem d_law_952 : dI code 952 .iadd 1 953 := by decide +kernel
theorem d_law_953 : dI code 953 .iaload 1 954 := by decide +kernel
theorem d_law_954 : dI code 954 (.aload_n 0) 1 955 := by decide +kernel
theorem d_law_955 : dI code 955 (.iload_n 3) 1 956 := by decide +kernel
theorem d_law_956 : dI code 956 (.iconst 2) 1 957 ∧ Int32.ofInt 2 = 2 := by decide +kernel
theorem d_law_957 : dI code 957 .iadd 1 958 := by decide +kernel
theorem d_law_958 : dI code 958 .iaload 1 959 := by decide +kernel
theorem d_law_959 : dI code 959 (.aload_n 0) 1 960 := by decide +kernel
theorem d_law_960 : dI code 960 (.iload_n 3) 1 961 := by decide +kernel
theorem d_law_961 : dI code 961 (.iconst 3) 1 962 ∧ Int32.ofInt 3 = 3 := by decide +kernel
theorem d_law_962 : dI code 962 .iadd 1 963 := by decide +kernel
theorem d_law_963 : dI code 963 .iaload 1 964 := by decide +kernel
theorem d_law_964 : dI code 964 (.invokevirtual 136) 3 967 := by decide +kernel
theorem d_law_967 : dI code 967 (.aload_n 2) 1 968 := by decide +kernel
theorem d_law_968 : dI code 968 (.aload_n 0) 1 969 := by decide +kernel
theorem d_law_969 : dI code 969 (.iload_n 3) 1 970 := by decide +kernel
theorem d_law_970 : dI code 970 (.iconst 1) 1 971 ∧ Int32.ofInt 1 = 1 := by decide +kernel
theorem d_law_971 : dI code 971 .iadd 1 972 := by decide +kernel
theorem d_law_972 : dI code 972 .iaload 1 973 := by decide +kernel
theorem d_law_973 : dI code 973 (.aload_n 0) 1 974 := by decide +kernel
theorem d_law_974 : dI code 974 (.iload_n 3) 1 975 := by decide +kernel
theorem d_law_975 : dI code 975 (.iconst 2) 1 976 ∧ Int32.ofInt 2 = 2 := by decide +kernel
theorem d_law_976 : dI code 976 .iadd 1 977 := by decide +kernel
theorem d_law_977 : dI code 977 .iaload 1 978 := by decide +kernel
theorem d_law_978 : dI code 978 (.aload_n 0) 1 979 := by decide +kernel
theorem d_law_979 : dI code 979 (.iload_n 3) 1 980 := by decide +kernel
theorem d_law_980 : dI code 980 (.iconst 3) 1 981 ∧ Int32.ofInt 3 = 3 := by decide +kernel
theorem d_law_981 : dI code 981 .iadd 1 982 := by decide +kernel
theorem d_law_982 : dI code 982 .iaload 1 983 := by decide +kernel
theorem d_law_983 : dI code 983 (.invokevirtual 140) 3 986 := by decide +kernel
theorem d_law_986 : dJ code 986 (.if_icmp .eq 252) 252 989 1238 := by decide +kernel
theorem d_law_989 : dI code 989 (.iconst 0) 1 990 ∧ Int32.ofInt 0 = 0 := by decide +kernel
theorem d_law_990 : decode code 990 = .ok (.ireturn, 1) := by decide +kernel
theorem d_law_991 : dI code 991 (.aload_n 1) 1 992 := by decide +kernel
theorem d_law_992 : dI code 992 (.aload_n 0) 1 993 := by decide +kernel
theorem d_law_993 : dI code 993 (.iload_n 3) 1 994 := by decide +kernel
theorem d_law_994 : dI code 994 (.iconst 1) 1 995 ∧ Int32.ofInt 1 = 1 := by decide +kernel
theorem d_law_995 : dI code 995 .iadd 1 996 := by decide +kernel
theorem d_law_996 : dI code 996 .iaload 1 997 := by decide +kernel
theorem d_law_997 : dI code 997 (.aload_n 0) 1 998 := by decide +kernel
theorem d_law_998 : dI code 998 (.iload_n 3) 1 999 := by decide +kernel
theorem d_law_999 : dI code 999 (.iconst 2) 1 1000 ∧ Int32.ofInt 2 = 2 := by decide +kernel
theorem d_law_1000 : dI code 1000 .iadd 1 1001 := by decide +kernel
theorem d_law_1001 : dI code 1001 .iaload 1 1002 := by decide +kernel
theorem d_law_1002 : dI code 1002 (.aload_n 0) 1 1003 := by decide +kernel
theorem d_law_1003 : dI code 1003 (.iload_n 3) 1 1004 := by decide +kernel
theorem d_law_1004 : dI code 1004 (.iconst 3) 1 1005 ∧ Int32.ofInt 3 = 3 := by decide +kernel
theorem d_law_1005 : dI code 1005 .iadd 1 1006 := by decide +kernel
theorem d_law_1006 : dI code 1006 .iaload 1 1007 := by decide +kernel
theorem d_law_1007 : dI code 1007 (.invokevirtual 141) 3 1010 := by decide +kernel
theorem d_law_1010 : dI code 1010 (.aload_n 2) 1 1011 := by decide +kernel
theorem d_law_1011 : dI code 1011 (.aload_n 0) 1 1012 := by decide +kernel
theorem d_law_1012 : dI code 1012 (.iload_n 3) 1 1013 := by decide +kernel
theorem d_law_1013 : dI code 1013 (.iconst 1) 1 1014 ∧ Int32.ofInt 1 = 1 := by decide +kernel
theorem d_law_1014 : dI code 1014 .iadd 1 1015 := by decide +kernel
theorem d_law_1015 : dI code 1015 .iaload 1 1016 := by decide +kernel
theorem d_law_1016 : dI code 1016 (.aload_n 0) 1 1017 := by decide +kernel
theorem d_law_1017 : dI code 1017 (.iload_n 3) 1 1018 := by decide +kernel
theorem d_law_1018 : dI code 1018 (.iconst 2) 1 1019 ∧ Int32.ofInt 2 = 2 := by decide +kernel
theorem d_law_1019 : dI code 1019 .iadd 1 1020 := by decide +kernel
theorem d_law_1020 : dI code 1020 .iaload 1 1021 := by decide +kernel
theorem d_law_1021 : dI code 1021 (.aload_n 0) 1 1022 := by decide +kernel
theorem d_law_1022 : dI code 1022 (.iload_n 3) 1 1023 := by decide +kernel
theorem d_law_1023 : dI code 1023 (.iconst 3) 1 1024 ∧ Int32.ofInt 3 = 3 := by decide +kernel
theorem d_law_1024 : dI code 1024 .iadd 1 1025 := by decide +kernel
theorem d_law_1025 : dI code 1025 .iaload 1 1026 := by decide +kernel
theorem d_law_1026 : dI code 1026 (.invokevirtual 144) 3 1029 := by decide +kernel
theorem d_law_1029 : dJ code 1029 (.if_icmp .eq 209) 209 1032 1238 := by decide +kernel
theorem d_law_1032 : dI code 1032 (.iconst 0) 1 1033 ∧ Int32.ofInt 0 = 0 := by decide +kernel
theorem d_law_1033 : decode code 1033 = .ok (.ireturn, 1) := by decide +kernel
theorem d_law_1034 : dI code 1034 (.aload_n 1) 1 1035 := by decide +kernel
theorem d_law_1035 : dI code 1035 (.aload_n 0) 1 1036 := by decide +kernel
theorem d_law_1036 : dI code 1036 (.iload_n 3) 1 1037 := by decide +kernel
theorem d_law_1037 : dI code 1037 (.iconst 1) 1 1038 ∧ Int32.ofInt 1 = 1 := by decide +kernel
theorem d_law_1038 : dI code 1038 .iadd 1 1039 := by decide +kernel
theorem d_law_1039 : dI code 1039 .iaload 1 1040 := by decide +kernel
theorem d_law_1040 : dI code 1040 (.aload_n 0) 1 1041 := by decide +kernel
theorem d_law_1041 : dI code 1041 (.iload_n 3) 1 1042 := by decide +kernel
theorem d_law_1042 : dI code 1042 (.iconst 2) 1 1043 ∧ Int32.ofInt 2 = 2 := by decide +kernel
theorem d_law_1043 : dI code 1043 .iadd 1 1044 := by decide +kernel
theorem d_law_1044 : dI code 1044 .iaload 1 1045 := by decide +kernel
theorem d_law_1045 : dI code 1045 (.aload_n 0) 1 1046 := by decide +kernel
theorem d_law_1046 : dI code 1046 (.iload_n 3) 1 1047 := by decide +kernel
theorem d_law_1047 : dI code 1047 (.iconst 3) 1 1048 ∧ Int32.ofInt 3 = 3 := by decide +kernel
theorem d_law_1048 : dI code 1048 .iadd 1 1049 := by decide +kernel
theorem d_law_1049 : dI code 1049 .iaload 1 1050 := by decide +kernel
theorem d_law_1050 : dI code 1050 (.aload_n 0) 1 1051 := by decide +kernel
theorem d_law_1051 : dI code 1051 (.iload_n 3) 1 1052 := by decide +kernel
theorem d_law_1052 : dI code 1052 (.iconst 4) 1 1053 ∧ Int32.ofInt 4 = 4 := by decide +kernel
theorem d_law_1053 : dI code 1053 .iadd 1 1054 := by decide +kernel
theorem d_law_1054 : dI code 1054 .iaload 1 1055 := by decide +kernel
theorem d_law_1055 : dI code 1055 (.aload_n 0) 1 1056 := by decide +kernel
theorem d_law_1056 : dI code 1056 (.iload_n 3) 1 1057 := by decide +kernel
theorem d_law_1057 : dI code 1057 (.iconst 5) 1 1058 ∧ Int32.ofInt 5 = 5 := by decide +kernel
theorem d_law_1058 : dI code 1058 .iadd 1 1059 := by decide +kernel
theorem d_law_1059 : dI code 1059 .iaload 1 1060 := by decide +kernel
theorem d_law_1060 : dI code 1060 (.invokevirtual 145) 3 1063 := by decide +kernel
theorem d_law_1063 : dI code 1063 (.aload_n 2) 1 1064 := by decide +kernel
theorem d_law_1064 : dI code 1064 (.aload_n 0) 1 1065 := by decide +kernel
theorem d_law_1065 : dI code 1065 (.iload_n 3) 1 1066 := by decide +kernel
theorem d_law_1066 : dI code 1066 (.iconst 1) 1 1067 ∧ Int32.ofInt 1 = 1 := by decide +kernel
theorem d_law_1067 : dI code 1067 .iadd 1 1068 := by decide +kernel
theorem d_law_1068 : dI code 1068 .iaload 1 1069 := by decide +kernel
theorem d_law_1069 : dI code 1069 (.aload_n 0) 1 1070 := by decide +kernel
theorem d_law_1070 : dI code 1070 (.iload_n 3) 1 1071 := by decide +kernel
theorem d_law_1071 : dI code 1071 (.iconst 2) 1 1072 ∧ Int32.ofInt 2 = 2 := by decide +kernel
theorem d_law_1072 : dI code 1072 .iadd 1 1073 := by decide +kernel
theorem d_law_1073 : dI code 1073 .iaload 1 1074 := by decide +kernel
theorem d_law_1074 : dI code 1074 (.aload_n 0) 1 1075 := by decide +kernel
theorem d_law_1075 : dI code 1075 (.iload_n 3) 1 1076 := by decide +kernel
theorem d_law_1076 : dI code 1076 (.iconst 3) 1 1077 ∧ Int32.ofInt 3 = 3 := by decide +kernel
theorem d_law_1077 : dI code 1077 .iadd 1 1078 := by decide +kernel
theorem d_law_1078 : dI code 1078 .iaload 1 1079 := by decide +kernel
theorem d_law_1079 : dI code 1079 (.aload_n 0) 1 1080 := by decide +kernel
theorem d_law_1080 : dI code 1080 (.iload_n 3) 1 1081 := by decide +kernel
theorem d_law_1081 : dI code 1081 (.iconst 4) 1 1082 ∧ Int32.ofInt 4 = 4 := by decide +kernel
theorem d_law_1082 : dI code 1082 .iadd 1 1083 := by decide +kernel
theorem d_law_1083 : dI code 1083 .iaload 1 1084 := by decide +kernel
theorem d_law_1084 : dI code 1084 (.aload_n 0) 1 1085 := by decide +kernel
theorem d_law_1085 : dI code 1085 (.iload_n 3) 1 1086 := by decide +kernel
theorem d_law_1086 : dI code 1086 (.iconst 5) 1 1087 ∧ Int32.ofInt 5 = 5 := by decide +kernel
theorem d_law_1087 : dI code 1087 .iadd 1 1088 := by decide +kernel
theorem d_law_1088 : dI code 1088 .iaload 1 1089 := by decide +kernel
theorem d_law_1089 : dI code 1089 (.invokevirtual 149) 3 1092 := by decide +kernel
theorem d_law_1092 : dJ code 1092 (.if_icmp .eq 146) 146 1095 1238 := by decide +kernel
theorem d_law_1095 : dI code 1095 (.iconst 0) 1 1096 ∧ Int32.ofInt 0 = 0 := by decide +kernel
theorem d_law_1096 : decode code 1096 = .ok (.ireturn, 1) := by decide +kernel
theorem d_law_1097 : dI code 1097 (.aload_n 1) 1 1098 := by decide +kernel
theorem d_law_1098 : dI code 1098 (.aload_n 0) 1 1099 := by decide +kernel
theorem d_law_1099 : dI code 1099 (.iload_n 3) 1 1100 := by decide +kernel
theorem d_law_1100 : dI code 1100 (.iconst 1) 1 1101 ∧ Int32.ofInt 1 = 1 := by decide +kernel
theorem d_law_1101 : dI code 1101 .iadd 1 1102 := by decide +kernel
theorem d_law_1102 : dI code 1102 .iaload 1 1103 := by decide +kernel
theorem d_law_1103 : dI code 1103 (.aload_n 0) 1 1104 := by decide +kernel
theorem d_law_1104 : dI code 1104 (.iload_n 3) 1 1105 := by decide +kernel
theorem d_law_1105 : dI code 1105 (.iconst 2) 1 1106 ∧ Int32.ofInt 2 = 2 := by decide +kernel
theorem d_law_1106 : dI code 1106 .iadd 1 1107 := by decide +kernel
theorem d_law_1107 : dI code 1107 .iaload 1 1108 := by decide +kernel
theorem d_law_1108 : dI code 1108 (.invokevirtual 150) 3 1111 := by decide +kernel
theorem d_law_1111 : dI code 1111 (.aload_n 2) 1 1112 := by decide +kernel
theorem d_law_1112 : dI code 1112 (.aload_n 0) 1 1113 := by decide +kernel
theorem d_law_1113 : dI code 1113 (.iload_n 3) 1 1114 := by decide +kernel
theorem d_law_1114 : dI code 1114 (.iconst 1) 1 1115 ∧ Int32.ofInt 1 = 1 := by decide +kernel
theorem d_law_1115 : dI code 1115 .iadd 1 1116 := by decide +kernel
theorem d_law_1116 : dI code 1116 .iaload 1 1117 := by decide +kernel
theorem d_law_1117 : dI code 1117 (.aload_n 0) 1 1118 := by decide +kernel
theorem d_law_1118 : dI code 1118 (.iload_n 3) 1 1119 := by decide +kernel
theorem d_law_1119 : dI code 1119 (.iconst 2) 1 1120 ∧ Int32.ofInt 2 = 2 := by decide +kernel
theorem d_law_1120 : dI code 1120 .iadd 1 1121 := by decide +kernel
theorem d_law_1121 : dI code 1121 .iaload 1 1122 := by decide +kernel
theorem d_law_1122 : dI code 1122 (.invokevirtual 153) 3 1125 := by decide +kernel
theorem d_law_1125 : dJ code 1125 (.if_icmp .eq 113) 113 1128 1238 := by decide +kernel
theorem d_law_1128 : dI code 1128 (.iconst 0) 1 1129 ∧ Int32.ofInt 0 = 0 := by decide +kernel
theorem d_law_1129 : decode code 1129 = .ok (.ireturn, 1) := by decide +kernel
theorem d_law_1130 : dI code 1130 (.aload_n 1) 1 1131 := by decide +kernel
theorem d_law_1131 : dI code 1131 (.aload_n 0) 1 1132 := by decide +kernel
theorem d_law_1132 : dI code 1132 (.iload_n 3) 1 1133 := by decide +kernel
theorem d_law_1133 : dI code 1133 (.iconst 1) 1 1134 ∧ Int32.ofInt 1 = 1 := by decide +kernel
theorem d_law_1134 : dI code 1134 .iadd 1 1135 := by decide +kernel
theorem d_law_1135 : dI code 1135 .iaload 1 1136 := by decide +kernel
theorem d_law_1136 : dI code 1136 (.invokevirtual 154) 3 1139 := by decide +kernel
theorem d_law_1139 : dI code 1139 (.aload_n 2) 1 1140 := by decide +kernel
theorem d_law_1140 : dI code 1140 (.aload_n 0) 1 1141 := by decide +kernel
theorem d_law_1141 : dI code 1141 (.iload_n 3) 1 1142 := by decide +kernel
theorem d_law_1142 : dI code 1142 (.iconst 1) 1 1143 ∧ Int32.ofInt 1 = 1 := by decide +kernel
theorem d_law_1143 : dI code 1143 .iadd 1 1144 := by decide +kernel
theorem d_law_1144 : dI code 1144 .iaload 1 1145 := by decide +kernel
theorem d_law_1145 : dI code 1145 (.invokevirtual 157) 3 1148 := by decide +kernel
theorem d_law_1148 : dJ code 1148 (.if_icmp .eq 90) 90 1151 1238 := by decide +kernel
theorem d_law_1151 : dI code 1151 (.iconst 0) 1 1152 ∧ Int32.ofInt 0 = 0 := by decide +kernel
theorem d_law_1152 : decode code 1152 = .ok (.ireturn, 1) := by decide +kernel
theorem d_law_1153 : dI code 1153 (.aload_n 1) 1 1154 := by decide +kernel
theorem d_law_1154 : dI code 1154 (.invokevirtual 158) 3 1157 := by decide +kernel
theorem d_law_1157 : dI code 1157 (.aload_n 2) 1 1158 := by decide +kernel
theorem d_law_1158 : dI code 1158 (.invokevirtual 161) 3 1161 := by decide +kernel
theorem d_law_1161 : dJ code 1161 (.if_icmp .eq 77) 77 1164 1238 := by decide +kernel
theorem d_law_1164 : dI code 1164 (.iconst 0) 1 1165 ∧ Int32.ofInt 0 = 0 := by decide +kernel
theorem d_law_1165 : decode code 1165 = .ok (.ireturn, 1) := by decide +kernel
theorem d_law_1166 : dI code 1166 (.aload_n 1) 1 1167 := by decide +kernel
theorem d_law_1167 : dI code 1167 (.invokevirtual 162) 3 1170 := by decide +kernel
theorem d_law_1170 : dI code 1170 (.aload_n 2) 1 1171 := by decide +kernel
theorem d_law_1171 : dI code 1171 (.invokevirtual 165) 3 1174 := by decide +kernel
theorem d_law_1174 : dJ code 1174 (.if_icmp .eq 64) 64 1177 1238 := by decide +kernel
theorem d_law_1177 : dI code 1177 (.iconst 0) 1 1178 ∧ Int32.ofInt 0 = 0 := by decide +kernel
theorem d_law_1178 : decode code 1178 = .ok (.ireturn, 1) := by decide +kernel
theorem d_law_1179 : dI code 1179 (.aload_n 1) 1 1180 := by decide +kernel
theorem d_law_1180 : dI code 1180 (.invokevirtual 166) 3 1183 := by decide +kernel
theorem d_law_1183 : dI code 1183 (.aload_n 2) 1 1184 := by decide +kernel
theorem d_law_1184 : dI code 1184 (.invokevirtual 169) 3 1187 := by decide +kernel
theorem d_law_1187 : dJ code 1187 (.if_icmp .eq 51) 51 1190 1238 := by decide +kernel
theorem d_law_1190 : dI code 1190 (.iconst 0) 1 1191 ∧ Int32.ofInt 0 = 0 := by decide +kernel
theorem d_law_1191 : decode code 1191 = .ok (.ireturn, 1) := by decide +kernel
theorem d_law_1192 : dI code 1192 (.aload_n 1) 1 1193 := by decide +kernel
theorem d_law_1193 : dI code 1193 (.aload_n 0) 1 1194 := by decide +kernel
theorem d_law_1194 : dI code 1194 (.iload_n 3) 1 1195 := by decide +kernel
theorem d_law_1195 : dI code 1195 (.iconst 1) 1 1196 ∧ Int32.ofInt 1 = 1 := by decide +kernel
theorem d_law_1196 : dI code 1196 .iadd 1 1197 := by decide +kernel
theorem d_law_1197 : dI code 1197 .iaload 1 1198 := by decide +kernel
theorem d_law_1198 : dI code 1198 (.invokevirtual 170) 3 1201 := by decide +kernel
theorem d_law_1201 : dI code 1201 (.aload_n 2) 1 1202 := by decide +kernel
theorem d_law_1202 : dI code 1202 (.aload_n 0) 1 1203 := by decide +kernel
theorem d_law_1203 : dI code 1203 (.iload_n 3) 1 1204 := by decide +kernel
theorem d_law_1204 : dI code 1204 (.iconst 1) 1 1205 ∧ Int32.ofInt 1 = 1 := by decide +kernel
theorem d_law_1205 : dI code 1205 .iadd 1 1206 := by decide +kernel
theorem d_law_1206 : dI code 1206 .iaload 1 1207 := by decide +kernel
theorem d_law_1207 : dI code 1207 (.invokevirtual 173) 3 1210 := by decide +kernel
theorem d_law_1210 : dJ code 1210 (.if_icmp .eq 28) 28 1213 1238 := by decide +kernel
theorem d_law_1213 : dI code 1213 (.iconst 0) 1 1214 ∧ Int32.ofInt 0 = 0 := by decide +kernel
theorem d_law_1214 : decode code 1214 = .ok (.ireturn, 1) := by decide +kernel
theorem d_law_1215 : dI code 1215 (.aload_n 1) 1 1216 := by decide +kernel
theorem d_law_1216 : dI code 1216 (.aload_n 0) 1 1217 := by decide +kernel
theorem d_law_1217 : dI code 1217 (.iload_n 3) 1 1218 := by decide +kernel
theorem d_law_1218 : dI code 1218 (.iconst 1) 1 1219 ∧ Int32.ofInt 1 = 1 := by decide +kernel
theorem d_law_1219 : dI code 1219 .iadd 1 1220 := by decide +kernel
theorem d_law_1220 : dI code 1220 .iaload 1 1221 := by decide +kernel
theorem d_law_1221 : dI code 1221 (.invokevirtual 174) 3 1224 := by decide +kernel
theorem d_law_1224 : dI code 1224 (.aload_n 2) 1 1225 := by decide +kernel
theorem d_law_1225 : dI code 1225 (.aload_n 0) 1 1226 := by decide +kernel
theorem d_law_1226 : dI code 1226 (.iload_n 3) 1 1227 := by decide +kernel
theorem d_law_1227 : dI code 1227 (.iconst 1) 1 1228 ∧ Int32.ofInt 1 = 1 := by decide +kernel
theorem d_law_1228 : dI code 1228 .iadd 1 1229 := by decide +kernel
theorem d_law_1229 : dI code 1229 .iaload 1 1230 := by decide +kernel
theorem d_law_1230 : dI code 1230 (.invokevirtual 177) 3 1233 := by decide +kernel
theorem d_law_1233 : dJ code 1233 (.if_icmp .eq 5) 5 1236 1238 := by decide +kernel
theorem d_law_1236 : dI code 1236 (.iconst 0) 1 1237 ∧ Int32.ofInt 0 = 0 := by decide +kernel
theorem d_law_1237 : decode code 1237 = .ok (.ireturn, 1) := by decide +kernel
theorem d_law_1238 : dI code 1238 (.iinc 3 6) 3 1241 ∧ Int32.ofInt 6 = 6 := by decide +kernel
theorem d_law_1241 : dJ code 1241 (.goto (-1223)) (-1223) 1244 18 := by decide +kernel
theorem d_law_1244 : dI code 1244 (.iconst 1) 1 1245 ∧ Int32.ofInt 1 = 1 := by decide +kernel
theorem d_law_1245 : decode code 1245 = .ok (.ireturn, 1) := by decide +kernel
