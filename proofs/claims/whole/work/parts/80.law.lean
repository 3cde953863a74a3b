theorem d_law_0 : DC code 0 (.new 7) 3 3 := ⟨by decide +kernel, rfl⟩
theorem d_law_3 : DC code 3 (.dup) 1 4 := ⟨by decide +kernel, rfl⟩
theorem d_law_4 : DC code 4 (.invokespecial 9) 3 7 := ⟨by decide +kernel, rfl⟩
theorem d_law_7 : DC code 7 (.astore_n 1) 1 8 := ⟨by decide +kernel, rfl⟩
theorem d_law_8 : DC code 8 (.new 10) 3 11 := ⟨by decide +kernel, rfl⟩
theorem d_law_11 : DC code 11 (.dup) 1 12 := ⟨by decide +kernel, rfl⟩
theorem d_law_12 : DC code 12 (.invokespecial 12) 3 15 := ⟨by decide +kernel, rfl⟩
theorem d_law_15 : DC code 15 (.astore_n 2) 1 16 := ⟨by decide +kernel, rfl⟩
theorem d_law_16 : DC code 16 (.iconst 0) 1 17 := ⟨by decide +kernel, rfl⟩
theorem d_law_17 : DC code 17 (.istore_n 3) 1 18 := ⟨by decide +kernel, rfl⟩
theorem d_law_18 : DC code 18 (.iload_n 3) 1 19 := ⟨by decide +kernel, rfl⟩
theorem d_law_19 : DC code 19 (.aload_n 0) 1 20 := ⟨by decide +kernel, rfl⟩
theorem d_law_20 : DC code 20 (.arraylength) 1 21 := ⟨by decide +kernel, rfl⟩
theorem d_law_21 : DC code 21 (.bipush 6) 2 23 := ⟨by decide +kernel, rfl⟩
theorem d_law_23 : DC code 23 (.isub) 1 24 := ⟨by decide +kernel, rfl⟩
theorem d_law_24 : DB code 24 (.if_icmp .gt 1670) 1670 1694 27 := ⟨by decide +kernel, by decide, rfl⟩
theorem d_law_27 : DC code 27 (.aload_n 0) 1 28 := ⟨by decide +kernel, rfl⟩
theorem d_law_28 : DC code 28 (.iload_n 3) 1 29 := ⟨by decide +kernel, rfl⟩
theorem d_law_29 : DC code 29 (.iaload) 1 30 := ⟨by decide +kernel, rfl⟩
theorem d_law_30 : DC code 30 (.bipush 63) 2 32 := ⟨by decide +kernel, rfl⟩
theorem d_law_32 : DC code 32 (.iand) 1 33 := ⟨by decide +kernel, rfl⟩
theorem d_law_33 : decode code 33 = .ok (.tableswitch 1655 0 46 #[203, 236, 299, 332, 365, 398, 431, 474, 487, 530, 563, 626, 639, 682, 695, 708, 731, 774, 787, 820, 863, 896, 909, 922, 955, 988, 1031, 1044, 1067, 1100, 1113, 1146, 1169, 1182, 1195, 1228, 1251, 1284, 1317, 1360, 1403, 1426, 1479, 1522, 1585, 1618, 1641], 203) := by decide +kernel
theorem d_law_236 : DC code 236 (.aload_n 1) 1 237 := ⟨by decide +kernel, rfl⟩
theorem d_law_237 : DC code 237 (.aload_n 0) 1 238 := ⟨by decide +kernel, rfl⟩
theorem d_law_238 : DC code 238 (.iload_n 3) 1 239 := ⟨by decide +kernel, rfl⟩
theorem d_law_239 : DC code 239 (.iconst 1) 1 240 := ⟨by decide +kernel, rfl⟩
theorem d_law_240 : DC code 240 (.iadd) 1 241 := ⟨by decide +kernel, rfl⟩
theorem d_law_241 : DC code 241 (.iaload) 1 242 := ⟨by decide +kernel, rfl⟩
theorem d_law_242 : DC code 242 (.aload_n 0) 1 243 := ⟨by decide +kernel, rfl⟩
theorem d_law_243 : DC code 243 (.iload_n 3) 1 244 := ⟨by decide +kernel, rfl⟩
theorem d_law_244 : DC code 244 (.iconst 2) 1 245 := ⟨by decide +kernel, rfl⟩
theorem d_law_245 : DC code 245 (.iadd) 1 246 := ⟨by decide +kernel, rfl⟩
theorem d_law_246 : DC code 246 (.iaload) 1 247 := ⟨by decide +kernel, rfl⟩
theorem d_law_247 : DC code 247 (.invokevirtual 13) 3 250 := ⟨by decide +kernel, rfl⟩
theorem d_law_250 : DC code 250 (.aload_n 2) 1 251 := ⟨by decide +kernel, rfl⟩
theorem d_law_251 : DC code 251 (.aload_n 0) 1 252 := ⟨by decide +kernel, rfl⟩
theorem d_law_252 : DC code 252 (.iload_n 3) 1 253 := ⟨by decide +kernel, rfl⟩
theorem d_law_253 : DC code 253 (.iconst 1) 1 254 := ⟨by decide +kernel, rfl⟩
theorem d_law_254 : DC code 254 (.iadd) 1 255 := ⟨by decide +kernel, rfl⟩
theorem d_law_255 : DC code 255 (.iaload) 1 256 := ⟨by decide +kernel, rfl⟩
theorem d_law_256 : DC code 256 (.aload_n 0) 1 257 := ⟨by decide +kernel, rfl⟩
theorem d_law_257 : DC code 257 (.iload_n 3) 1 258 := ⟨by decide +kernel, rfl⟩
theorem d_law_258 : DC code 258 (.iconst 2) 1 259 := ⟨by decide +kernel, rfl⟩
theorem d_law_259 : DC code 259 (.iadd) 1 260 := ⟨by decide +kernel, rfl⟩
theorem d_law_260 : DC code 260 (.iaload) 1 261 := ⟨by decide +kernel, rfl⟩
theorem d_law_261 : DC code 261 (.invokevirtual 17) 3 264 := ⟨by decide +kernel, rfl⟩
theorem d_law_264 : DB code 264 (.if_icmp .eq 1424) 1424 1688 267 := ⟨by decide +kernel, by decide, rfl⟩
theorem d_law_267 : DC code 267 (.iconst 0) 1 268 := ⟨by decide +kernel, rfl⟩
theorem d_law_268 : decode code 268 = .ok (.ireturn, 1) := by decide +kernel
theorem d_law_269 : DC code 269 (.aload_n 1) 1 270 := ⟨by decide +kernel, rfl⟩
theorem d_law_270 : DC code 270 (.aload_n 0) 1 271 := ⟨by decide +kernel, rfl⟩
theorem d_law_271 : DC code 271 (.iload_n 3) 1 272 := ⟨by decide +kernel, rfl⟩
theorem d_law_272 : DC code 272 (.iconst 1) 1 273 := ⟨by decide +kernel, rfl⟩
theorem d_law_273 : DC code 273 (.iadd) 1 274 := ⟨by decide +kernel, rfl⟩
theorem d_law_274 : DC code 274 (.iaload) 1 275 := ⟨by decide +kernel, rfl⟩
theorem d_law_275 : DC code 275 (.aload_n 0) 1 276 := ⟨by decide +kernel, rfl⟩
theorem d_law_276 : DC code 276 (.iload_n 3) 1 277 := ⟨by decide +kernel, rfl⟩
theorem d_law_277 : DC code 277 (.iconst 2) 1 278 := ⟨by decide +kernel, rfl⟩
theorem d_law_278 : DC code 278 (.iadd) 1 279 := ⟨by decide +kernel, rfl⟩
theorem d_law_279 : DC code 279 (.iaload) 1 280 := ⟨by decide +kernel, rfl⟩
theorem d_law_280 : DC code 280 (.aload_n 0) 1 281 := ⟨by decide +kernel, rfl⟩
theorem d_law_281 : DC code 281 (.iload_n 3) 1 282 := ⟨by decide +kernel, rfl⟩
theorem d_law_282 : DC code 282 (.iconst 3) 1 283 := ⟨by decide +kernel, rfl⟩
theorem d_law_283 : DC code 283 (.iadd) 1 284 := ⟨by decide +kernel, rfl⟩
theorem d_law_284 : DC code 284 (.iaload) 1 285 := ⟨by decide +kernel, rfl⟩
theorem d_law_285 : DC code 285 (.aload_n 0) 1 286 := ⟨by decide +kernel, rfl⟩
theorem d_law_286 : DC code 286 (.iload_n 3) 1 287 := ⟨by decide +kernel, rfl⟩
theorem d_law_287 : DC code 287 (.iconst 4) 1 288 := ⟨by decide +kernel, rfl⟩
theorem d_law_288 : DC code 288 (.iadd) 1 289 := ⟨by decide +kernel, rfl⟩
theorem d_law_289 : DC code 289 (.iaload) 1 290 := ⟨by decide +kernel, rfl⟩
theorem d_law_290 : DC code 290 (.aload_n 0) 1 291 := ⟨by decide +kernel, rfl⟩
theorem d_law_291 : DC code 291 (.iload_n 3) 1 292 := ⟨by decide +kernel, rfl⟩
theorem d_law_292 : DC code 292 (.iconst 5) 1 293 := ⟨by decide +kernel, rfl⟩
theorem d_law_293 : DC code 293 (.iadd) 1 294 := ⟨by decide +kernel, rfl⟩
theorem d_law_294 : DC code 294 (.iaload) 1 295 := ⟨by decide +kernel, rfl⟩
theorem d_law_295 : DC code 295 (.invokevirtual 18) 3 298 := ⟨by decide +kernel, rfl⟩
theorem d_law_298 : DC code 298 (.aload_n 2) 1 299 := ⟨by decide +kernel, rfl⟩
theorem d_law_299 : DC code 299 (.aload_n 0) 1 300 := ⟨by decide +kernel, rfl⟩
theorem d_law_300 : DC code 300 (.iload_n 3) 1 301 := ⟨by decide +kernel, rfl⟩
theorem d_law_301 : DC code 301 (.iconst 1) 1 302 := ⟨by decide +kernel, rfl⟩
theorem d_law_302 : DC code 302 (.iadd) 1 303 := ⟨by decide +kernel, rfl⟩
theorem d_law_303 : DC code 303 (.iaload) 1 304 := ⟨by decide +kernel, rfl⟩
theorem d_law_304 : DC code 304 (.aload_n 0) 1 305 := ⟨by decide +kernel, rfl⟩
theorem d_law_305 : DC code 305 (.iload_n 3) 1 306 := ⟨by decide +kernel, rfl⟩
theorem d_law_306 : DC code 306 (.iconst 2) 1 307 := ⟨by decide +kernel, rfl⟩
theorem d_law_307 : DC code 307 (.iadd) 1 308 := ⟨by decide +kernel, rfl⟩
theorem d_law_308 : DC code 308 (.iaload) 1 309 := ⟨by decide +kernel, rfl⟩
theorem d_law_309 : DC code 309 (.aload_n 0) 1 310 := ⟨by decide +kernel, rfl⟩
theorem d_law_310 : DC code 310 (.iload_n 3) 1 311 := ⟨by decide +kernel, rfl⟩
theorem d_law_311 : DC code 311 (.iconst 3) 1 312 := ⟨by decide +kernel, rfl⟩
theorem d_law_312 : DC code 312 (.iadd) 1 313 := ⟨by decide +kernel, rfl⟩
theorem d_law_313 : DC code 313 (.iaload) 1 314 := ⟨by decide +kernel, rfl⟩
theorem d_law_314 : DC code 314 (.aload_n 0) 1 315 := ⟨by decide +kernel, rfl⟩
theorem d_law_315 : DC code 315 (.iload_n 3) 1 316 := ⟨by decide +kernel, rfl⟩
theorem d_law_316 : DC code 316 (.iconst 4) 1 317 := ⟨by decide +kernel, rfl⟩
theorem d_law_317 : DC code 317 (.iadd) 1 318 := ⟨by decide +kernel, rfl⟩
theorem d_law_318 : DC code 318 (.iaload) 1 319 := ⟨by decide +kernel, rfl⟩
theorem d_law_319 : DC code 319 (.aload_n 0) 1 320 := ⟨by decide +kernel, rfl⟩
theorem d_law_320 : DC code 320 (.iload_n 3) 1 321 := ⟨by decide +kernel, rfl⟩
theorem d_law_321 : DC code 321 (.iconst 5) 1 322 := ⟨by decide +kernel, rfl⟩
theorem d_law_322 : DC code 322 (.iadd) 1 323 := ⟨by decide +kernel, rfl⟩
theorem d_law_323 : DC code 323 (.iaload) 1 324 := ⟨by decide +kernel, rfl⟩
theorem d_law_324 : DC code 324 (.invokevirtual 22) 3 327 := ⟨by decide +kernel, rfl⟩
theorem d_law_327 : DB code 327 (.if_icmp .eq 1361) 1361 1688 330 := ⟨by decide +kernel, by decide, rfl⟩
theorem d_law_330 : DC code 330 (.iconst 0) 1 331 := ⟨by decide +kernel, rfl⟩
theorem d_law_331 : decode code 331 = .ok (.ireturn, 1) := by decide +kernel
theorem d_law_332 : DC code 332 (.aload_n 1) 1 333 := ⟨by decide +kernel, rfl⟩
theorem d_law_333 : DC code 333 (.aload_n 0) 1 334 := ⟨by decide +kernel, rfl⟩
theorem d_law_334 : DC code 334 (.iload_n 3) 1 335 := ⟨by decide +kernel, rfl⟩
theorem d_law_335 : DC code 335 (.iconst 1) 1 336 := ⟨by decide +kernel, rfl⟩
theorem d_law_336 : DC code 336 (.iadd) 1 337 := ⟨by decide +kernel, rfl⟩
theorem d_law_337 : DC code 337 (.iaload) 1 338 := ⟨by decide +kernel, rfl⟩
theorem d_law_338 : DC code 338 (.aload_n 0) 1 339 := ⟨by decide +kernel, rfl⟩
theorem d_law_339 : DC code 339 (.iload_n 3) 1 340 := ⟨by decide +kernel, rfl⟩
theorem d_law_340 : DC code 340 (.iconst 2) 1 341 := ⟨by decide +kernel, rfl⟩
theorem d_law_341 : DC code 341 (.iadd) 1 342 := ⟨by decide +kernel, rfl⟩
theorem d_law_342 : DC code 342 (.iaload) 1 343 := ⟨by decide +kernel, rfl⟩
theorem d_law_343 : DC code 343 (.invokevirtual 23) 3 346 := ⟨by decide +kernel, rfl⟩
theorem d_law_346 : DC code 346 (.aload_n 2) 1 347 := ⟨by decide +kernel, rfl⟩
theorem d_law_347 : DC code 347 (.aload_n 0) 1 348 := ⟨by decide +kernel, rfl⟩
theorem d_law_348 : DC code 348 (.iload_n 3) 1 349 := ⟨by decide +kernel, rfl⟩
theorem d_law_349 : DC code 349 (.iconst 1) 1 350 := ⟨by decide +kernel, rfl⟩
theorem d_law_350 : DC code 350 (.iadd) 1 351 := ⟨by decide +kernel, rfl⟩
theorem d_law_351 : DC code 351 (.iaload) 1 352 := ⟨by decide +kernel, rfl⟩
theorem d_law_352 : DC code 352 (.aload_n 0) 1 353 := ⟨by decide +kernel, rfl⟩
theorem d_law_353 : DC code 353 (.iload_n 3) 1 354 := ⟨by decide +kernel, rfl⟩
theorem d_law_354 : DC code 354 (.iconst 2) 1 355 := ⟨by decide +kernel, rfl⟩
theorem d_law_355 : DC code 355 (.iadd) 1 356 := ⟨by decide +kernel, rfl⟩
theorem d_law_356 : DC code 356 (.iaload) 1 357 := ⟨by decide +kernel, rfl⟩
theorem d_law_357 : DC code 357 (.invokevirtual 26) 3 360 := ⟨by decide +kernel, rfl⟩
theorem d_law_360 : DB code 360 (.if_icmp .eq 1328) 1328 1688 363 := ⟨by decide +kernel, by decide, rfl⟩
theorem d_law_363 : DC code 363 (.iconst 0) 1 364 := ⟨by decide +kernel, rfl⟩
theorem d_law_364 : decode code 364 = .ok (.ireturn, 1) := by decide +kernel
theorem d_law_365 : DC code 365 (.aload_n 1) 1 366 := ⟨by decide +kernel, rfl⟩
theorem d_law_366 : DC code 366 (.aload_n 0) 1 367 := ⟨by decide +kernel, rfl⟩
theorem d_law_367 : DC code 367 (.iload_n 3) 1 368 := ⟨by decide +kernel, rfl⟩
theorem d_law_368 : DC code 368 (.iconst 1) 1 369 := ⟨by decide +kernel, rfl⟩
theorem d_law_369 : DC code 369 (.iadd) 1 370 := ⟨by decide +kernel, rfl⟩
theorem d_law_370 : DC code 370 (.iaload) 1 371 := ⟨by decide +kernel, rfl⟩
theorem d_law_371 : DC code 371 (.aload_n 0) 1 372 := ⟨by decide +kernel, rfl⟩
theorem d_law_372 : DC code 372 (.iload_n 3) 1 373 := ⟨by decide +kernel, rfl⟩
theorem d_law_373 : DC code 373 (.iconst 2) 1 374 := ⟨by decide +kernel, rfl⟩
theorem d_law_374 : DC code 374 (.iadd) 1 375 := ⟨by decide +kernel, rfl⟩
theorem d_law_375 : DC code 375 (.iaload) 1 376 := ⟨by decide +kernel, rfl⟩
theorem d_law_376 : DC code 376 (.invokevirtual 27) 3 379 := ⟨by decide +kernel, rfl⟩
theorem d_law_379 : DC code 379 (.aload_n 2) 1 380 := ⟨by decide +kernel, rfl⟩
theorem d_law_380 : DC code 380 (.aload_n 0) 1 381 := ⟨by decide +kernel, rfl⟩
theorem d_law_381 : DC code 381 (.iload_n 3) 1 382 := ⟨by decide +kernel, rfl⟩
theorem d_law_382 : DC code 382 (.iconst 1) 1 383 := ⟨by decide +kernel, rfl⟩
theorem d_law_383 : DC code 383 (.iadd) 1 384 := ⟨by decide +kernel, rfl⟩
theorem d_law_384 : DC code 384 (.iaload) 1 385 := ⟨by decide +kernel, rfl⟩
theorem d_law_385 : DC code 385 (.aload_n 0) 1 386 := ⟨by decide +kernel, rfl⟩
theorem d_law_386 : DC code 386 (.iload_n 3) 1 387 := ⟨by decide +kernel, rfl⟩
theorem d_law_387 : DC code 387 (.iconst 2) 1 388 := ⟨by decide +kernel, rfl⟩
theorem d_law_388 : DC code 388 (.iadd) 1 389 := ⟨by decide +kernel, rfl⟩
theorem d_law_389 : DC code 389 (.iaload) 1 390 := ⟨by decide +kernel, rfl⟩
theorem d_law_390 : DC code 390 (.invokevirtual 30) 3 393 := ⟨by decide +kernel, rfl⟩
theorem d_law_393 : DB code 393 (.if_icmp .eq 1295) 1295 1688 396 := ⟨by decide +kernel, by decide, rfl⟩
theorem d_law_396 : DC code 396 (.iconst 0) 1 397 := ⟨by decide +kernel, rfl⟩
theorem d_law_397 : decode code 397 = .ok (.ireturn, 1) := by decide +kernel
theorem d_law_398 : DC code 398 (.aload_n 1) 1 399 := ⟨by decide +kernel, rfl⟩
theorem d_law_399 : DC code 399 (.aload_n 0) 1 400 := ⟨by decide +kernel, rfl⟩
theorem d_law_400 : DC code 400 (.iload_n 3) 1 401 := ⟨by decide +kernel, rfl⟩
theorem d_law_401 : DC code 401 (.iconst 1) 1 402 := ⟨by decide +kernel, rfl⟩
theorem d_law_402 : DC code 402 (.iadd) 1 403 := ⟨by decide +kernel, rfl⟩
theorem d_law_403 : DC code 403 (.iaload) 1 404 := ⟨by decide +kernel, rfl⟩
theorem d_law_404 : DC code 404 (.aload_n 0) 1 405 := ⟨by decide +kernel, rfl⟩
theorem d_law_405 : DC code 405 (.iload_n 3) 1 406 := ⟨by decide +kernel, rfl⟩
theorem d_law_406 : DC code 406 (.iconst 2) 1 407 := ⟨by decide +kernel, rfl⟩
theorem d_law_407 : DC code 407 (.iadd) 1 408 := ⟨by decide +kernel, rfl⟩
theorem d_law_408 : DC code 408 (.iaload) 1 409 := ⟨by decide +kernel, rfl⟩
theorem d_law_409 : DC code 409 (.invokevirtual 31) 3 412 := ⟨by decide +kernel, rfl⟩
theorem d_law_412 : DC code 412 (.aload_n 2) 1 413 := ⟨by decide +kernel, rfl⟩
theorem d_law_413 : DC code 413 (.aload_n 0) 1 414 := ⟨by decide +kernel, rfl⟩
theorem d_law_414 : DC code 414 (.iload_n 3) 1 415 := ⟨by decide +kernel, rfl⟩
theorem d_law_415 : DC code 415 (.iconst 1) 1 416 := ⟨by decide +kernel, rfl⟩
theorem d_law_416 : DC code 416 (.iadd) 1 417 := ⟨by decide +kernel, rfl⟩
theorem d_law_417 : DC code 417 (.iaload) 1 418 := ⟨by decide +kernel, rfl⟩
theorem d_law_418 : DC code 418 (.aload_n 0) 1 419 := ⟨by decide +kernel, rfl⟩
theorem d_law_419 : DC code 419 (.iload_n 3) 1 420 := ⟨by decide +kernel, rfl⟩
theorem d_law_420 : DC code 420 (.iconst 2) 1 421 := ⟨by decide +kernel, rfl⟩
theorem d_law_421 : DC code 421 (.iadd) 1 422 := ⟨by decide +kernel, rfl⟩
theorem d_law_422 : DC code 422 (.iaload) 1 423 := ⟨by decide +kernel, rfl⟩
theorem d_law_423 : DC code 423 (.invokevirtual 34) 3 426 := ⟨by decide +kernel, rfl⟩
theorem d_law_426 : DB code 426 (.if_icmp .eq 1262) 1262 1688 429 := ⟨by decide +kernel, by decide, rfl⟩
theorem d_law_429 : DC code 429 (.iconst 0) 1 430 := ⟨by decide +kernel, rfl⟩
theorem d_law_430 : decode code 430 = .ok (.ireturn, 1) := by decide +kernel
theorem d_law_431 : DC code 431 (.aload_n 1) 1 432 := ⟨by decide +kernel, rfl⟩
theorem d_law_432 : DC code 432 (.aload_n 0) 1 433 := ⟨by decide +kernel, rfl⟩
theorem d_law_433 : DC code 433 (.iload_n 3) 1 434 := ⟨by decide +kernel, rfl⟩
theorem d_law_434 : DC code 434 (.iconst 1) 1 435 := ⟨by decide +kernel, rfl⟩
theorem d_law_435 : DC code 435 (.iadd) 1 436 := ⟨by decide +kernel, rfl⟩
theorem d_law_436 : DC code 436 (.iaload) 1 437 := ⟨by decide +kernel, rfl⟩
theorem d_law_437 : DC code 437 (.aload_n 0) 1 438 := ⟨by decide +kernel, rfl⟩
theorem d_law_438 : DC code 438 (.iload_n 3) 1 439 := ⟨by decide +kernel, rfl⟩
theorem d_law_439 : DC code 439 (.iconst 2) 1 440 := ⟨by decide +kernel, rfl⟩
theorem d_law_440 : DC code 440 (.iadd) 1 441 := ⟨by decide +kernel, rfl⟩
theorem d_law_441 : DC code 441 (.iaload) 1 442 := ⟨by decide +kernel, rfl⟩
theorem d_law_442 : DC code 442 (.invokevirtual 35) 3 445 := ⟨by decide +kernel, rfl⟩
theorem d_law_445 : DC code 445 (.aload_n 2) 1 446 := ⟨by decide +kernel, rfl⟩
theorem d_law_446 : DC code 446 (.aload_n 0) 1 447 := ⟨by decide +kernel, rfl⟩
theorem d_law_447 : DC code 447 (.iload_n 3) 1 448 := ⟨by decide +kernel, rfl⟩
theorem d_law_448 : DC code 448 (.iconst 1) 1 449 := ⟨by decide +kernel, rfl⟩
theorem d_law_449 : DC code 449 (.iadd) 1 450 := ⟨by decide +kernel, rfl⟩
theorem d_law_450 : DC code 450 (.iaload) 1 451 := ⟨by decide +kernel, rfl⟩
theorem d_law_451 : DC code 451 (.aload_n 0) 1 452 := ⟨by decide +kernel, rfl⟩
theorem d_law_452 : DC code 452 (.iload_n 3) 1 453 := ⟨by decide +kernel, rfl⟩
theorem d_law_453 : DC code 453 (.iconst 2) 1 454 := ⟨by decide +kernel, rfl⟩
theorem d_law_454 : DC code 454 (.iadd) 1 455 := ⟨by decide +kernel, rfl⟩
theorem d_law_455 : DC code 455 (.iaload) 1 456 := ⟨by decide +kernel, rfl⟩
theorem d_law_456 : DC code 456 (.invokevirtual 38) 3 459 := ⟨by decide +kernel, rfl⟩
theorem d_law_459 : DB code 459 (.if_icmp .eq 1229) 1229 1688 462 := ⟨by decide +kernel, by decide, rfl⟩
theorem d_law_462 : DC code 462 (.iconst 0) 1 463 := ⟨by decide +kernel, rfl⟩
theorem d_law_463 : decode code 463 = .ok (.ireturn, 1) := by decide +kernel
theorem d_law_464 : DC code 464 (.aload_n 1) 1 465 := ⟨by decide +kernel, rfl⟩
theorem d_law_465 : DC code 465 (.aload_n 0) 1 466 := ⟨by decide +kernel, rfl⟩
theorem d_law_466 : DC code 466 (.iload_n 3) 1 467 := ⟨by decide +kernel, rfl⟩
theorem d_law_467 : DC code 467 (.iconst 1) 1 468 := ⟨by decide +kernel, rfl⟩
theorem d_law_468 : DC code 468 (.iadd) 1 469 := ⟨by decide +kernel, rfl⟩
theorem d_law_469 : DC code 469 (.iaload) 1 470 := ⟨by decide +kernel, rfl⟩
theorem d_law_470 : DC code 470 (.aload_n 0) 1 471 := ⟨by decide +kernel, rfl⟩
theorem d_law_471 : DC code 471 (.iload_n 3) 1 472 := ⟨by decide +kernel, rfl⟩
theorem d_law_472 : DC code 472 (.iconst 2) 1 473 := ⟨by decide +kernel, rfl⟩
theorem d_law_473 : DC code 473 (.iadd) 1 474 := ⟨by decide +kernel, rfl⟩
theorem d_law_474 : DC code 474 (.iaload) 1 475 := ⟨by decide +kernel, rfl⟩
theorem d_law_475 : DC code 475 (.aload_n 0) 1 476 := ⟨by decide +kernel, rfl⟩
theorem d_law_476 : DC code 476 (.iload_n 3) 1 477 := ⟨by decide +kernel, rfl⟩
theorem d_law_477 : DC code 477 (.iconst 3) 1 478 := ⟨by decide +kernel, rfl⟩
theorem d_law_478 : DC code 478 (.iadd) 1 479 := ⟨by decide +kernel, rfl⟩
theorem d_law_479 : DC code 479 (.iaload) 1 480 := ⟨by decide +kernel, rfl⟩
theorem d_law_480 : DC code 480 (.invokevirtual 39) 3 483 := ⟨by decide +kernel, rfl⟩
theorem d_law_483 : DC code 483 (.aload_n 2) 1 484 := ⟨by decide +kernel, rfl⟩
theorem d_law_484 : DC code 484 (.aload_n 0) 1 485 := ⟨by decide +kernel, rfl⟩
theorem d_law_485 : DC code 485 (.iload_n 3) 1 486 := ⟨by decide +kernel, rfl⟩
theorem d_law_486 : DC code 486 (.iconst 1) 1 487 := ⟨by decide +kernel, rfl⟩
theorem d_law_487 : DC code 487 (.iadd) 1 488 := ⟨by decide +kernel, rfl⟩
theorem d_law_488 : DC code 488 (.iaload) 1 489 := ⟨by decide +kernel, rfl⟩
theorem d_law_489 : DC code 489 (.aload_n 0) 1 490 := ⟨by decide +kernel, rfl⟩
theorem d_law_490 : DC code 490 (.iload_n 3) 1 491 := ⟨by decide +kernel, rfl⟩
theorem d_law_491 : DC code 491 (.iconst 2) 1 492 := ⟨by decide +kernel, rfl⟩
theorem d_law_492 : DC code 492 (.iadd) 1 493 := ⟨by decide +kernel, rfl⟩
theorem d_law_493 : DC code 493 (.iaload) 1 494 := ⟨by decide +kernel, rfl⟩
theorem d_law_494 : DC code 494 (.aload_n 0) 1 495 := ⟨by decide +kernel, rfl⟩
theorem d_law_495 : DC code 495 (.iload_n 3) 1 496 := ⟨by decide +kernel, rfl⟩
theorem d_law_496 : DC code 496 (.iconst 3) 1 497 := ⟨by decide +kernel, rfl⟩
theorem d_law_497 : DC code 497 (.iadd) 1 498 := ⟨by decide +kernel, rfl⟩
theorem d_law_498 : DC code 498 (.iaload) 1 499 := ⟨by decide +kernel, rfl⟩
theorem d_law_499 : DC code 499 (.invokevirtual 43) 3 502 := ⟨by decide +kernel, rfl⟩
theorem d_law_502 : DB code 502 (.if_icmp .eq 1186) 1186 1688 505 := ⟨by decide +kernel, by decide, rfl⟩
theorem d_law_505 : DC code 505 (.iconst 0) 1 506 := ⟨by decide +kernel, rfl⟩
theorem d_law_506 : decode code 506 = .ok (.ireturn, 1) := by decide +kernel
theorem d_law_507 : DC code 507 (.aload_n 1) 1 508 := ⟨by decide +kernel, rfl⟩
theorem d_law_508 : DC code 508 (.invokevirtual 44) 3 511 := ⟨by decide +kernel, rfl⟩
theorem d_law_511 : DC code 511 (.aload_n 2) 1 512 := ⟨by decide +kernel, rfl⟩
theorem d_law_512 : DC code 512 (.invokevirtual 48) 3 515 := ⟨by decide +kernel, rfl⟩
theorem d_law_515 : DB code 515 (.if_icmp .eq 1173) 1173 1688 518 := ⟨by decide +kernel, by decide, rfl⟩
theorem d_law_518 : DC code 518 (.iconst 0) 1 519 := ⟨by decide +kernel, rfl⟩
theorem d_law_519 : decode code 519 = .ok (.ireturn, 1) := by decide +kernel
theorem d_law_520 : DC code 520 (.aload_n 1) 1 521 := ⟨by decide +kernel, rfl⟩
theorem d_law_521 : DC code 521 (.aload_n 0) 1 522 := ⟨by decide +kernel, rfl⟩
theorem d_law_522 : DC code 522 (.iload_n 3) 1 523 := ⟨by decide +kernel, rfl⟩
theorem d_law_523 : DC code 523 (.iconst 1) 1 524 := ⟨by decide +kernel, rfl⟩
theorem d_law_524 : DC code 524 (.iadd) 1 525 := ⟨by decide +kernel, rfl⟩
theorem d_law_525 : DC code 525 (.iaload) 1 526 := ⟨by decide +kernel, rfl⟩
theorem d_law_526 : DC code 526 (.aload_n 0) 1 527 := ⟨by decide +kernel, rfl⟩
theorem d_law_527 : DC code 527 (.iload_n 3) 1 528 := ⟨by decide +kernel, rfl⟩
theorem d_law_528 : DC code 528 (.iconst 2) 1 529 := ⟨by decide +kernel, rfl⟩
theorem d_law_529 : DC code 529 (.iadd) 1 530 := ⟨by decide +kernel, rfl⟩
theorem d_law_530 : DC code 530 (.iaload) 1 531 := ⟨by decide +kernel, rfl⟩
theorem d_law_531 : DC code 531 (.aload_n 0) 1 532 := ⟨by decide +kernel, rfl⟩
theorem d_law_532 : DC code 532 (.iload_n 3) 1 533 := ⟨by decide +kernel, rfl⟩
theorem d_law_533 : DC code 533 (.iconst 3) 1 534 := ⟨by decide +kernel, rfl⟩
theorem d_law_534 : DC code 534 (.iadd) 1 535 := ⟨by decide +kernel, rfl⟩
theorem d_law_535 : DC code 535 (.iaload) 1 536 := ⟨by decide +kernel, rfl⟩
theorem d_law_536 : DC code 536 (.invokevirtual 49) 3 539 := ⟨by decide +kernel, rfl⟩
theorem d_law_539 : DC code 539 (.aload_n 2) 1 540 := ⟨by decide +kernel, rfl⟩
theorem d_law_540 : DC code 540 (.aload_n 0) 1 541 := ⟨by decide +kernel, rfl⟩
theorem d_law_541 : DC code 541 (.iload_n 3) 1 542 := ⟨by decide +kernel, rfl⟩
theorem d_law_542 : DC code 542 (.iconst 1) 1 543 := ⟨by decide +kernel, rfl⟩
theorem d_law_543 : DC code 543 (.iadd) 1 544 := ⟨by decide +kernel, rfl⟩
theorem d_law_544 : DC code 544 (.iaload) 1 545 := ⟨by decide +kernel, rfl⟩
theorem d_law_545 : DC code 545 (.aload_n 0) 1 546 := ⟨by decide +kernel, rfl⟩
theorem d_law_546 : DC code 546 (.iload_n 3) 1 547 := ⟨by decide +kernel, rfl⟩
theorem d_law_547 : DC code 547 (.iconst 2) 1 548 := ⟨by decide +kernel, rfl⟩
theorem d_law_548 : DC code 548 (.iadd) 1 549 := ⟨by decide +kernel, rfl⟩
theorem d_law_549 : DC code 549 (.iaload) 1 550 := ⟨by decide +kernel, rfl⟩
theorem d_law_550 : DC code 550 (.aload_n 0) 1 551 := ⟨by decide +kernel, rfl⟩
theorem d_law_551 : DC code 551 (.iload_n 3) 1 552 := ⟨by decide +kernel, rfl⟩
theorem d_law_552 : DC code 552 (.iconst 3) 1 553 := ⟨by decide +kernel, rfl⟩
theorem d_law_553 : DC code 553 (.iadd) 1 554 := ⟨by decide +kernel, rfl⟩
theorem d_law_554 : DC code 554 (.iaload) 1 555 := ⟨by decide +kernel, rfl⟩
theorem d_law_555 : DC code 555 (.invokevirtual 52) 3 558 := ⟨by decide +kernel, rfl⟩
theorem d_law_558 : DB code 558 (.if_icmp .eq 1130) 1130 1688 561 := ⟨by decide +kernel, by decide, rfl⟩
theorem d_law_561 : DC code 561 (.iconst 0) 1 562 := ⟨by decide +kernel, rfl⟩
theorem d_law_562 : decode code 562 = .ok (.ireturn, 1) := by decide +kernel
theorem d_law_563 : DC code 563 (.aload_n 1) 1 564 := ⟨by decide +kernel, rfl⟩
theorem d_law_564 : DC code 564 (.aload_n 0) 1 565 := ⟨by decide +kernel, rfl⟩
theorem d_law_565 : DC code 565 (.iload_n 3) 1 566 := ⟨by decide +kernel, rfl⟩
theorem d_law_566 : DC code 566 (.iconst 1) 1 567 := ⟨by decide +kernel, rfl⟩
theorem d_law_567 : DC code 567 (.iadd) 1 568 := ⟨by decide +kernel, rfl⟩
theorem d_law_568 : DC code 568 (.iaload) 1 569 := ⟨by decide +kernel, rfl⟩
theorem d_law_569 : DC code 569 (.aload_n 0) 1 570 := ⟨by decide +kernel, rfl⟩
theorem d_law_570 : DC code 570 (.iload_n 3) 1 571 := ⟨by decide +kernel, rfl⟩
theorem d_law_571 : DC code 571 (.iconst 2) 1 572 := ⟨by decide +kernel, rfl⟩
theorem d_law_572 : DC code 572 (.iadd) 1 573 := ⟨by decide +kernel, rfl⟩
theorem d_law_573 : DC code 573 (.iaload) 1 574 := ⟨by decide +kernel, rfl⟩
theorem d_law_574 : DC code 574 (.invokevirtual 53) 3 577 := ⟨by decide +kernel, rfl⟩
theorem d_law_577 : DC code 577 (.aload_n 2) 1 578 := ⟨by decide +kernel, rfl⟩
theorem d_law_578 : DC code 578 (.aload_n 0) 1 579 := ⟨by decide +kernel, rfl⟩
theorem d_law_579 : DC code 579 (.iload_n 3) 1 580 := ⟨by decide +kernel, rfl⟩
theorem d_law_580 : DC code 580 (.iconst 1) 1 581 := ⟨by decide +kernel, rfl⟩
theorem d_law_581 : DC code 581 (.iadd) 1 582 := ⟨by decide +kernel, rfl⟩
theorem d_law_582 : DC code 582 (.iaload) 1 583 := ⟨by decide +kernel, rfl⟩
theorem d_law_583 : DC code 583 (.aload_n 0) 1 584 := ⟨by decide +kernel, rfl⟩
theorem d_law_584 : DC code 584 (.iload_n 3) 1 585 := ⟨by decide +kernel, rfl⟩
theorem d_law_585 : DC code 585 (.iconst 2) 1 586 := ⟨by decide +kernel, rfl⟩
theorem d_law_586 : DC code 586 (.iadd) 1 587 := ⟨by decide +kernel, rfl⟩
theorem d_law_587 : DC code 587 (.iaload) 1 588 := ⟨by decide +kernel, rfl⟩
theorem d_law_588 : DC code 588 (.invokevirtual 56) 3 591 := ⟨by decide +kernel, rfl⟩
theorem d_law_591 : DB code 591 (.if_icmp .eq 1097) 1097 1688 594 := ⟨by decide +kernel, by decide, rfl⟩
theorem d_law_594 : DC code 594 (.iconst 0) 1 595 := ⟨by decide +kernel, rfl⟩
theorem d_law_595 : decode code 595 = .ok (.ireturn, 1) := by decide +kernel
theorem d_law_596 : DC code 596 (.aload_n 1) 1 597 := ⟨by decide +kernel, rfl⟩
theorem d_law_597 : DC code 597 (.aload_n 0) 1 598 := ⟨by decide +kernel, rfl⟩
theorem d_law_598 : DC code 598 (.iload_n 3) 1 599 := ⟨by decide +kernel, rfl⟩
theorem d_law_599 : DC code 599 (.iconst 1) 1 600 := ⟨by decide +kernel, rfl⟩
theorem d_law_600 : DC code 600 (.iadd) 1 601 := ⟨by decide +kernel, rfl⟩
theorem d_law_601 : DC code 601 (.iaload) 1 602 := ⟨by decide +kernel, rfl⟩
theorem d_law_602 : DC code 602 (.aload_n 0) 1 603 := ⟨by decide +kernel, rfl⟩
theorem d_law_603 : DC code 603 (.iload_n 3) 1 604 := ⟨by decide +kernel, rfl⟩
theorem d_law_604 : DC code 604 (.iconst 2) 1 605 := ⟨by decide +kernel, rfl⟩
theorem d_law_605 : DC code 605 (.iadd) 1 606 := ⟨by decide +kernel, rfl⟩
theorem d_law_606 : DC code 606 (.iaload) 1 607 := ⟨by decide +kernel, rfl⟩
theorem d_law_607 : DC code 607 (.aload_n 0) 1 608 := ⟨by decide +kernel, rfl⟩
theorem d_law_608 : DC code 608 (.iload_n 3) 1 609 := ⟨by decide +kernel, rfl⟩
theorem d_law_609 : DC code 609 (.iconst 3) 1 610 := ⟨by decide +kernel, rfl⟩
theorem d_law_610 : DC code 610 (.iadd) 1 611 := ⟨by decide +kernel, rfl⟩
theorem d_law_611 : DC code 611 (.iaload) 1 612 := ⟨by decide +kernel, rfl⟩
theorem d_law_612 : DC code 612 (.aload_n 0) 1 613 := ⟨by decide +kernel, rfl⟩
theorem d_law_613 : DC code 613 (.iload_n 3) 1 614 := ⟨by decide +kernel, rfl⟩
theorem d_law_614 : DC code 614 (.iconst 4) 1 615 := ⟨by decide +kernel, rfl⟩
theorem d_law_615 : DC code 615 (.iadd) 1 616 := ⟨by decide +kernel, rfl⟩
theorem d_law_616 : DC code 616 (.iaload) 1 617 := ⟨by decide +kernel, rfl⟩
theorem d_law_617 : DC code 617 (.aload_n 0) 1 618 := ⟨by decide +kernel, rfl⟩
theorem d_law_618 : DC code 618 (.iload_n 3) 1 619 := ⟨by decide +kernel, rfl⟩
theorem d_law_619 : DC code 619 (.iconst 5) 1 620 := ⟨by decide +kernel, rfl⟩
theorem d_law_620 : DC code 620 (.iadd) 1 621 := ⟨by decide +kernel, rfl⟩
theorem d_law_621 : DC code 621 (.iaload) 1 622 := ⟨by decide +kernel, rfl⟩
theorem d_law_622 : DC code 622 (.invokevirtual 57) 3 625 := ⟨by decide +kernel, rfl⟩
theorem d_law_625 : DC code 625 (.aload_n 2) 1 626 := ⟨by decide +kernel, rfl⟩
theorem d_law_626 : DC code 626 (.aload_n 0) 1 627 := ⟨by decide +kernel, rfl⟩
theorem d_law_627 : DC code 627 (.iload_n 3) 1 628 := ⟨by decide +kernel, rfl⟩
theorem d_law_628 : DC code 628 (.iconst 1) 1 629 := ⟨by decide +kernel, rfl⟩
theorem d_law_629 : DC code 629 (.iadd) 1 630 := ⟨by decide +kernel, rfl⟩
theorem d_law_630 : DC code 630 (.iaload) 1 631 := ⟨by decide +kernel, rfl⟩
theorem d_law_631 : DC code 631 (.aload_n 0) 1 632 := ⟨by decide +kernel, rfl⟩
theorem d_law_632 : DC code 632 (.iload_n 3) 1 633 := ⟨by decide +kernel, rfl⟩
theorem d_law_633 : DC code 633 (.iconst 2) 1 634 := ⟨by decide +kernel, rfl⟩
theorem d_law_634 : DC code 634 (.iadd) 1 635 := ⟨by decide +kernel, rfl⟩
theorem d_law_635 : DC code 635 (.iaload) 1 636 := ⟨by decide +kernel, rfl⟩
theorem d_law_636 : DC code 636 (.aload_n 0) 1 637 := ⟨by decide +kernel, rfl⟩
theorem d_law_637 : DC code 637 (.iload_n 3) 1 638 := ⟨by decide +kernel, rfl⟩
theorem d_law_638 : DC code 638 (.iconst 3) 1 639 := ⟨by decide +kernel, rfl⟩
theorem d_law_639 : DC code 639 (.iadd) 1 640 := ⟨by decide +kernel, rfl⟩
theorem d_law_640 : DC code 640 (.iaload) 1 641 := ⟨by decide +kernel, rfl⟩
theorem d_law_641 : DC code 641 (.aload_n 0) 1 642 := ⟨by decide +kernel, rfl⟩
theorem d_law_642 : DC code 642 (.iload_n 3) 1 643 := ⟨by decide +kernel, rfl⟩
theorem d_law_643 : DC code 643 (.iconst 4) 1 644 := ⟨by decide +kernel, rfl⟩
theorem d_law_644 : DC code 644 (.iadd) 1 645 := ⟨by decide +kernel, rfl⟩
theorem d_law_645 : DC code 645 (.iaload) 1 646 := ⟨by decide +kernel, rfl⟩
theorem d_law_646 : DC code 646 (.aload_n 0) 1 647 := ⟨by decide +kernel, rfl⟩
theorem d_law_647 : DC code 647 (.iload_n 3) 1 648 := ⟨by decide +kernel, rfl⟩
theorem d_law_648 : DC code 648 (.iconst 5) 1 649 := ⟨by decide +kernel, rfl⟩
theorem d_law_649 : DC code 649 (.iadd) 1 650 := ⟨by decide +kernel, rfl⟩
theorem d_law_650 : DC code 650 (.iaload) 1 651 := ⟨by decide +kernel, rfl⟩
theorem d_law_651 : DC code 651 (.invokevirtual 60) 3 654 := ⟨by decide +kernel, rfl⟩
theorem d_law_654 : DB code 654 (.if_icmp .eq 1034) 1034 1688 657 := ⟨by decide +kernel, by decide, rfl⟩
theorem d_law_657 : DC code 657 (.iconst 0) 1 658 := ⟨by decide +kernel, rfl⟩
theorem d_law_658 : decode code 658 = .ok (.ireturn, 1) := by decide +kernel
theorem d_law_659 : DC code 659 (.aload_n 1) 1 660 := ⟨by decide +kernel, rfl⟩
theorem d_law_660 : DC code 660 (.invokevirtual 61) 3 663 := ⟨by decide +kernel, rfl⟩
theorem d_law_663 : DC code 663 (.aload_n 2) 1 664 := ⟨by decide +kernel, rfl⟩
theorem d_law_664 : DC code 664 (.invokevirtual 64) 3 667 := ⟨by decide +kernel, rfl⟩
theorem d_law_667 : DB code 667 (.if_icmp .eq 1021) 1021 1688 670 := ⟨by decide +kernel, by decide, rfl⟩
theorem d_law_670 : DC code 670 (.iconst 0) 1 671 := ⟨by decide +kernel, rfl⟩
theorem d_law_671 : decode code 671 = .ok (.ireturn, 1) := by decide +kernel
theorem d_law_672 : DC code 672 (.aload_n 1) 1 673 := ⟨by decide +kernel, rfl⟩
theorem d_law_673 : DC code 673 (.aload_n 0) 1 674 := ⟨by decide +kernel, rfl⟩
theorem d_law_674 : DC code 674 (.iload_n 3) 1 675 := ⟨by decide +kernel, rfl⟩
theorem d_law_675 : DC code 675 (.iconst 1) 1 676 := ⟨by decide +kernel, rfl⟩
theorem d_law_676 : DC code 676 (.iadd) 1 677 := ⟨by decide +kernel, rfl⟩
theorem d_law_677 : DC code 677 (.iaload) 1 678 := ⟨by decide +kernel, rfl⟩
theorem d_law_678 : DC code 678 (.aload_n 0) 1 679 := ⟨by decide +kernel, rfl⟩
theorem d_law_679 : DC code 679 (.iload_n 3) 1 680 := ⟨by decide +kernel, rfl⟩
theorem d_law_680 : DC code 680 (.iconst 2) 1 681 := ⟨by decide +kernel, rfl⟩
theorem d_law_681 : DC code 681 (.iadd) 1 682 := ⟨by decide +kernel, rfl⟩
theorem d_law_682 : DC code 682 (.iaload) 1 683 := ⟨by decide +kernel, rfl⟩
theorem d_law_683 : DC code 683 (.aload_n 0) 1 684 := ⟨by decide +kernel, rfl⟩
theorem d_law_684 : DC code 684 (.iload_n 3) 1 685 := ⟨by decide +kernel, rfl⟩
theorem d_law_685 : DC code 685 (.iconst 3) 1 686 := ⟨by decide +kernel, rfl⟩
theorem d_law_686 : DC code 686 (.iadd) 1 687 := ⟨by decide +kernel, rfl⟩
theorem d_law_687 : DC code 687 (.iaload) 1 688 := ⟨by decide +kernel, rfl⟩
theorem d_law_688 : DC code 688 (.invokevirtual 65) 3 691 := ⟨by decide +kernel, rfl⟩
theorem d_law_691 : DC code 691 (.aload_n 2) 1 692 := ⟨by decide +kernel, rfl⟩
theorem d_law_692 : DC code 692 (.aload_n 0) 1 693 := ⟨by decide +kernel, rfl⟩
theorem d_law_693 : DC code 693 (.iload_n 3) 1 694 := ⟨by decide +kernel, rfl⟩
theorem d_law_694 : DC code 694 (.iconst 1) 1 695 := ⟨by decide +kernel, rfl⟩
theorem d_law_695 : DC code 695 (.iadd) 1 696 := ⟨by decide +kernel, rfl⟩
theorem d_law_696 : DC code 696 (.iaload) 1 697 := ⟨by decide +kernel, rfl⟩
theorem d_law_697 : DC code 697 (.aload_n 0) 1 698 := ⟨by decide +kernel, rfl⟩
theorem d_law_698 : DC code 698 (.iload_n 3) 1 699 := ⟨by decide +kernel, rfl⟩
theorem d_law_699 : DC code 699 (.iconst 2) 1 700 := ⟨by decide +kernel, rfl⟩
theorem d_law_700 : DC code 700 (.iadd) 1 701 := ⟨by decide +kernel, rfl⟩
theorem d_law_701 : DC code 701 (.iaload) 1 702 := ⟨by decide +kernel, rfl⟩
theorem d_law_702 : DC code 702 (.aload_n 0) 1 703 := ⟨by decide +kernel, rfl⟩
theorem d_law_703 : DC code 703 (.iload_n 3) 1 704 := ⟨by decide +kernel, rfl⟩
theorem d_law_704 : DC code 704 (.iconst 3) 1 705 := ⟨by decide +kernel, rfl⟩
theorem d_law_705 : DC code 705 (.iadd) 1 706 := ⟨by decide +kernel, rfl⟩
theorem d_law_706 : DC code 706 (.iaload) 1 707 := ⟨by decide +kernel, rfl⟩
theorem d_law_707 : DC code 707 (.invokevirtual 68) 3 710 := ⟨by decide +kernel, rfl⟩
theorem d_law_710 : DB code 710 (.if_icmp .eq 978) 978 1688 713 := ⟨by decide +kernel, by decide, rfl⟩
theorem d_law_713 : DC code 713 (.iconst 0) 1 714 := ⟨by decide +kernel, rfl⟩
theorem d_law_714 : decode code 714 = .ok (.ireturn, 1) := by decide +kernel
theorem d_law_715 : DC code 715 (.aload_n 1) 1 716 := ⟨by decide +kernel, rfl⟩
theorem d_law_716 : DC code 716 (.invokevirtual 69) 3 719 := ⟨by decide +kernel, rfl⟩
theorem d_law_719 : DC code 719 (.aload_n 2) 1 720 := ⟨by decide +kernel, rfl⟩
theorem d_law_720 : DC code 720 (.invokevirtual 72) 3 723 := ⟨by decide +kernel, rfl⟩
theorem d_law_723 : DB code 723 (.if_icmp .eq 965) 965 1688 726 := ⟨by decide +kernel, by decide, rfl⟩
theorem d_law_726 : DC code 726 (.iconst 0) 1 727 := ⟨by decide +kernel, rfl⟩
theorem d_law_727 : decode code 727 = .ok (.ireturn, 1) := by decide +kernel
theorem d_law_728 : DC code 728 (.aload_n 1) 1 729 := ⟨by decide +kernel, rfl⟩
theorem d_law_729 : DC code 729 (.invokevirtual 73) 3 732 := ⟨by decide +kernel, rfl⟩
theorem d_law_732 : DC code 732 (.aload_n 2) 1 733 := ⟨by decide +kernel, rfl⟩
theorem d_law_733 : DC code 733 (.invokevirtual 76) 3 736 := ⟨by decide +kernel, rfl⟩
theorem d_law_736 : DB code 736 (.if_icmp .eq 952) 952 1688 739 := ⟨by decide +kernel, by decide, rfl⟩
theorem d_law_739 : DC code 739 (.iconst 0) 1 740 := ⟨by decide +kernel, rfl⟩
theorem d_law_740 : decode code 740 = .ok (.ireturn, 1) := by decide +kernel
theorem d_law_741 : DC code 741 (.aload_n 1) 1 742 := ⟨by decide +kernel, rfl⟩
theorem d_law_742 : DC code 742 (.aload_n 0) 1 743 := ⟨by decide +kernel, rfl⟩
theorem d_law_743 : DC code 743 (.iload_n 3) 1 744 := ⟨by decide +kernel, rfl⟩
theorem d_law_744 : DC code 744 (.iconst 1) 1 745 := ⟨by decide +kernel, rfl⟩
theorem d_law_745 : DC code 745 (.iadd) 1 746 := ⟨by decide +kernel, rfl⟩
theorem d_law_746 : DC code 746 (.iaload) 1 747 := ⟨by decide +kernel, rfl⟩
theorem d_law_747 : DC code 747 (.invokevirtual 77) 3 750 := ⟨by decide +kernel, rfl⟩
theorem d_law_750 : DC code 750 (.aload_n 2) 1 751 := ⟨by decide +kernel, rfl⟩
theorem d_law_751 : DC code 751 (.aload_n 0) 1 752 := ⟨by decide +kernel, rfl⟩
theorem d_law_752 : DC code 752 (.iload_n 3) 1 753 := ⟨by decide +kernel, rfl⟩
theorem d_law_753 : DC code 753 (.iconst 1) 1 754 := ⟨by decide +kernel, rfl⟩
theorem d_law_754 : DC code 754 (.iadd) 1 755 := ⟨by decide +kernel, rfl⟩
theorem d_law_755 : DC code 755 (.iaload) 1 756 := ⟨by decide +kernel, rfl⟩
theorem d_law_756 : DC code 756 (.invokevirtual 81) 3 759 := ⟨by decide +kernel, rfl⟩
theorem d_law_759 : DB code 759 (.if_icmp .eq 929) 929 1688 762 := ⟨by decide +kernel, by decide, rfl⟩
theorem d_law_762 : DC code 762 (.iconst 0) 1 763 := ⟨by decide +kernel, rfl⟩
theorem d_law_763 : decode code 763 = .ok (.ireturn, 1) := by decide +kernel
theorem d_law_764 : DC code 764 (.aload_n 1) 1 765 := ⟨by decide +kernel, rfl⟩
theorem d_law_765 : DC code 765 (.aload_n 0) 1 766 := ⟨by decide +kernel, rfl⟩
theorem d_law_766 : DC code 766 (.iload_n 3) 1 767 := ⟨by decide +kernel, rfl⟩
theorem d_law_767 : DC code 767 (.iconst 1) 1 768 := ⟨by decide +kernel, rfl⟩
theorem d_law_768 : DC code 768 (.iadd) 1 769 := ⟨by decide +kernel, rfl⟩
theorem d_law_769 : DC code 769 (.iaload) 1 770 := ⟨by decide +kernel, rfl⟩
theorem d_law_770 : DC code 770 (.aload_n 0) 1 771 := ⟨by decide +kernel, rfl⟩
theorem d_law_771 : DC code 771 (.iload_n 3) 1 772 := ⟨by decide +kernel, rfl⟩
theorem d_law_772 : DC code 772 (.iconst 2) 1 773 := ⟨by decide +kernel, rfl⟩
theorem d_law_773 : DC code 773 (.iadd) 1 774 := ⟨by decide +kernel, rfl⟩
theorem d_law_774 : DC code 774 (.iaload) 1 775 := ⟨by decide +kernel, rfl⟩
theorem d_law_775 : DC code 775 (.aload_n 0) 1 776 := ⟨by decide +kernel, rfl⟩
theorem d_law_776 : DC code 776 (.iload_n 3) 1 777 := ⟨by decide +kernel, rfl⟩
theorem d_law_777 : DC code 777 (.iconst 3) 1 778 := ⟨by decide +kernel, rfl⟩
theorem d_law_778 : DC code 778 (.iadd) 1 779 := ⟨by decide +kernel, rfl⟩
theorem d_law_779 : DC code 779 (.iaload) 1 780 := ⟨by decide +kernel, rfl⟩
theorem d_law_780 : DC code 780 (.invokevirtual 82) 3 783 := ⟨by decide +kernel, rfl⟩
theorem d_law_783 : DC code 783 (.aload_n 2) 1 784 := ⟨by decide +kernel, rfl⟩
theorem d_law_784 : DC code 784 (.aload_n 0) 1 785 := ⟨by decide +kernel, rfl⟩
theorem d_law_785 : DC code 785 (.iload_n 3) 1 786 := ⟨by decide +kernel, rfl⟩
theorem d_law_786 : DC code 786 (.iconst 1) 1 787 := ⟨by decide +kernel, rfl⟩
theorem d_law_787 : DC code 787 (.iadd) 1 788 := ⟨by decide +kernel, rfl⟩
theorem d_law_788 : DC code 788 (.iaload) 1 789 := ⟨by decide +kernel, rfl⟩
theorem d_law_789 : DC code 789 (.aload_n 0) 1 790 := ⟨by decide +kernel, rfl⟩
theorem d_law_790 : DC code 790 (.iload_n 3) 1 791 := ⟨by decide +kernel, rfl⟩
theorem d_law_791 : DC code 791 (.iconst 2) 1 792 := ⟨by decide +kernel, rfl⟩
theorem d_law_792 : DC code 792 (.iadd) 1 793 := ⟨by decide +kernel, rfl⟩
theorem d_law_793 : DC code 793 (.iaload) 1 794 := ⟨by decide +kernel, rfl⟩
theorem d_law_794 : DC code 794 (.aload_n 0) 1 795 := ⟨by decide +kernel, rfl⟩
theorem d_law_795 : DC code 795 (.iload_n 3) 1 796 := ⟨by decide +kernel, rfl⟩
theorem d_law_796 : DC code 796 (.iconst 3) 1 797 := ⟨by decide +kernel, rfl⟩
theorem d_law_797 : DC code 797 (.iadd) 1 798 := ⟨by decide +kernel, rfl⟩
theorem d_law_798 : DC code 798 (.iaload) 1 799 := ⟨by decide +kernel, rfl⟩
theorem d_law_799 : DC code 799 (.invokevirtual 85) 3 802 := ⟨by decide +kernel, rfl⟩
theorem d_law_802 : DB code 802 (.if_icmp .eq 886) 886 1688 805 := ⟨by decide +kernel, by decide, rfl⟩
theorem d_law_805 : DC code 805 (.iconst 0) 1 806 := ⟨by decide +kernel, rfl⟩
theorem d_law_806 : decode code 806 = .ok (.ireturn, 1) := by decide +kernel
theorem d_law_807 : DC code 807 (.aload_n 1) 1 808 := ⟨by decide +kernel, rfl⟩
theorem d_law_808 : DC code 808 (.invokevirtual 86) 3 811 := ⟨by decide +kernel, rfl⟩
theorem d_law_811 : DC code 811 (.aload_n 2) 1 812 := ⟨by decide +kernel, rfl⟩
theorem d_law_812 : DC code 812 (.invokevirtual 89) 3 815 := ⟨by decide +kernel, rfl⟩
theorem d_law_815 : DB code 815 (.if_icmp .eq 873) 873 1688 818 := ⟨by decide +kernel, by decide, rfl⟩
theorem d_law_818 : DC code 818 (.iconst 0) 1 819 := ⟨by decide +kernel, rfl⟩
theorem d_law_819 : decode code 819 = .ok (.ireturn, 1) := by decide +kernel
theorem d_law_820 : DC code 820 (.aload_n 1) 1 821 := ⟨by decide +kernel, rfl⟩
theorem d_law_821 : DC code 821 (.aload_n 0) 1 822 := ⟨by decide +kernel, rfl⟩
theorem d_law_822 : DC code 822 (.iload_n 3) 1 823 := ⟨by decide +kernel, rfl⟩
theorem d_law_823 : DC code 823 (.iconst 1) 1 824 := ⟨by decide +kernel, rfl⟩
theorem d_law_824 : DC code 824 (.iadd) 1 825 := ⟨by decide +kernel, rfl⟩
theorem d_law_825 : DC code 825 (.iaload) 1 826 := ⟨by decide +kernel, rfl⟩
theorem d_law_826 : DC code 826 (.aload_n 0) 1 827 := ⟨by decide +kernel, rfl⟩
theorem d_law_827 : DC code 827 (.iload_n 3) 1 828 := ⟨by decide +kernel, rfl⟩
theorem d_law_828 : DC code 828 (.iconst 2) 1 829 := ⟨by decide +kernel, rfl⟩
theorem d_law_829 : DC code 829 (.iadd) 1 830 := ⟨by decide +kernel, rfl⟩
theorem d_law_830 : DC code 830 (.iaload) 1 831 := ⟨by decide +kernel, rfl⟩
theorem d_law_831 : DC code 831 (.invokevirtual 90) 3 834 := ⟨by decide +kernel, rfl⟩
theorem d_law_834 : DC code 834 (.aload_n 2) 1 835 := ⟨by decide +kernel, rfl⟩
theorem d_law_835 : DC code 835 (.aload_n 0) 1 836 := ⟨by decide +kernel, rfl⟩
theorem d_law_836 : DC code 836 (.iload_n 3) 1 837 := ⟨by decide +kernel, rfl⟩
theorem d_law_837 : DC code 837 (.iconst 1) 1 838 := ⟨by decide +kernel, rfl⟩
theorem d_law_838 : DC code 838 (.iadd) 1 839 := ⟨by decide +kernel, rfl⟩
theorem d_law_839 : DC code 839 (.iaload) 1 840 := ⟨by decide +kernel, rfl⟩
theorem d_law_840 : DC code 840 (.aload_n 0) 1 841 := ⟨by decide +kernel, rfl⟩
theorem d_law_841 : DC code 841 (.iload_n 3) 1 842 := ⟨by decide +kernel, rfl⟩
theorem d_law_842 : DC code 842 (.iconst 2) 1 843 := ⟨by decide +kernel, rfl⟩
theorem d_law_843 : DC code 843 (.iadd) 1 844 := ⟨by decide +kernel, rfl⟩
theorem d_law_844 : DC code 844 (.iaload) 1 845 := ⟨by decide +kernel, rfl⟩
theorem d_law_845 : DC code 845 (.invokevirtual 93) 3 848 := ⟨by decide +kernel, rfl⟩
theorem d_law_848 : DB code 848 (.if_icmp .eq 840) 840 1688 851 := ⟨by decide +kernel, by decide, rfl⟩
theorem d_law_851 : DC code 851 (.iconst 0) 1 852 := ⟨by decide +kernel, rfl⟩
theorem d_law_852 : decode code 852 = .ok (.ireturn, 1) := by decide +kernel
theorem d_law_853 : DC code 853 (.aload_n 1) 1 854 := ⟨by decide +kernel, rfl⟩
theorem d_law_854 : DC code 854 (.aload_n 0) 1 855 := ⟨by decide +kernel, rfl⟩
theorem d_law_855 : DC code 855 (.iload_n 3) 1 856 := ⟨by decide +kernel, rfl⟩
theorem d_law_856 : DC code 856 (.iconst 1) 1 857 := ⟨by decide +kernel, rfl⟩
theorem d_law_857 : DC code 857 (.iadd) 1 858 := ⟨by decide +kernel, rfl⟩
theorem d_law_858 : DC code 858 (.iaload) 1 859 := ⟨by decide +kernel, rfl⟩
theorem d_law_859 : DC code 859 (.aload_n 0) 1 860 := ⟨by decide +kernel, rfl⟩
theorem d_law_860 : DC code 860 (.iload_n 3) 1 861 := ⟨by decide +kernel, rfl⟩
theorem d_law_861 : DC code 861 (.iconst 2) 1 862 := ⟨by decide +kernel, rfl⟩
theorem d_law_862 : DC code 862 (.iadd) 1 863 := ⟨by decide +kernel, rfl⟩
theorem d_law_863 : DC code 863 (.iaload) 1 864 := ⟨by decide +kernel, rfl⟩
theorem d_law_864 : DC code 864 (.aload_n 0) 1 865 := ⟨by decide +kernel, rfl⟩
theorem d_law_865 : DC code 865 (.iload_n 3) 1 866 := ⟨by decide +kernel, rfl⟩
theorem d_law_866 : DC code 866 (.iconst 3) 1 867 := ⟨by decide +kernel, rfl⟩
theorem d_law_867 : DC code 867 (.iadd) 1 868 := ⟨by decide +kernel, rfl⟩
theorem d_law_868 : DC code 868 (.iaload) 1 869 := ⟨by decide +kernel, rfl⟩
theorem d_law_869 : DC code 869 (.invokevirtual 94) 3 872 := ⟨by decide +kernel, rfl⟩
theorem d_law_872 : DC code 872 (.aload_n 2) 1 873 := ⟨by decide +kernel, rfl⟩
theorem d_law_873 : DC code 873 (.aload_n 0) 1 874 := ⟨by decide +kernel, rfl⟩
theorem d_law_874 : DC code 874 (.iload_n 3) 1 875 := ⟨by decide +kernel, rfl⟩
theorem d_law_875 : DC code 875 (.iconst 1) 1 876 := ⟨by decide +kernel, rfl⟩
theorem d_law_876 : DC code 876 (.iadd) 1 877 := ⟨by decide +kernel, rfl⟩
theorem d_law_877 : DC code 877 (.iaload) 1 878 := ⟨by decide +kernel, rfl⟩
theorem d_law_878 : DC code 878 (.aload_n 0) 1 879 := ⟨by decide +kernel, rfl⟩
theorem d_law_879 : DC code 879 (.iload_n 3) 1 880 := ⟨by decide +kernel, rfl⟩
theorem d_law_880 : DC code 880 (.iconst 2) 1 881 := ⟨by decide +kernel, rfl⟩
theorem d_law_881 : DC code 881 (.iadd) 1 882 := ⟨by decide +kernel, rfl⟩
theorem d_law_882 : DC code 882 (.iaload) 1 883 := ⟨by decide +kernel, rfl⟩
theorem d_law_883 : DC code 883 (.aload_n 0) 1 884 := ⟨by decide +kernel, rfl⟩
theorem d_law_884 : DC code 884 (.iload_n 3) 1 885 := ⟨by decide +kernel, rfl⟩
theorem d_law_885 : DC code 885 (.iconst 3) 1 886 := ⟨by decide +kernel, rfl⟩
theorem d_law_886 : DC code 886 (.iadd) 1 887 := ⟨by decide +kernel, rfl⟩
theorem d_law_887 : DC code 887 (.iaload) 1 888 := ⟨by decide +kernel, rfl⟩
theorem d_law_888 : DC code 888 (.invokevirtual 97) 3 891 := ⟨by decide +kernel, rfl⟩
theorem d_law_891 : DB code 891 (.if_icmp .eq 797) 797 1688 894 := ⟨by decide +kernel, by decide, rfl⟩
theorem d_law_894 : DC code 894 (.iconst 0) 1 895 := ⟨by decide +kernel, rfl⟩
theorem d_law_895 : decode code 895 = .ok (.ireturn, 1) := by decide +kernel
theorem d_law_896 : DC code 896 (.aload_n 1) 1 897 := ⟨by decide +kernel, rfl⟩
theorem d_law_897 : DC code 897 (.aload_n 0) 1 898 := ⟨by decide +kernel, rfl⟩
theorem d_law_898 : DC code 898 (.iload_n 3) 1 899 := ⟨by decide +kernel, rfl⟩
theorem d_law_899 : DC code 899 (.iconst 1) 1 900 := ⟨by decide +kernel, rfl⟩
theorem d_law_900 : DC code 900 (.iadd) 1 901 := ⟨by decide +kernel, rfl⟩
theorem d_law_901 : DC code 901 (.iaload) 1 902 := ⟨by decide +kernel, rfl⟩
theorem d_law_902 : DC code 902 (.aload_n 0) 1 903 := ⟨by decide +kernel, rfl⟩
theorem d_law_903 : DC code 903 (.iload_n 3) 1 904 := ⟨by decide +kernel, rfl⟩
theorem d_law_904 : DC code 904 (.iconst 2) 1 905 := ⟨by decide +kernel, rfl⟩
theorem d_law_905 : DC code 905 (.iadd) 1 906 := ⟨by decide +kernel, rfl⟩
theorem d_law_906 : DC code 906 (.iaload) 1 907 := ⟨by decide +kernel, rfl⟩
theorem d_law_907 : DC code 907 (.invokevirtual 98) 3 910 := ⟨by decide +kernel, rfl⟩
theorem d_law_910 : DC code 910 (.aload_n 2) 1 911 := ⟨by decide +kernel, rfl⟩
theorem d_law_911 : DC code 911 (.aload_n 0) 1 912 := ⟨by decide +kernel, rfl⟩
theorem d_law_912 : DC code 912 (.iload_n 3) 1 913 := ⟨by decide +kernel, rfl⟩
theorem d_law_913 : DC code 913 (.iconst 1) 1 914 := ⟨by decide +kernel, rfl⟩
theorem d_law_914 : DC code 914 (.iadd) 1 915 := ⟨by decide +kernel, rfl⟩
theorem d_law_915 : DC code 915 (.iaload) 1 916 := ⟨by decide +kernel, rfl⟩
theorem d_law_916 : DC code 916 (.aload_n 0) 1 917 := ⟨by decide +kernel, rfl⟩
theorem d_law_917 : DC code 917 (.iload_n 3) 1 918 := ⟨by decide +kernel, rfl⟩
theorem d_law_918 : DC code 918 (.iconst 2) 1 919 := ⟨by decide +kernel, rfl⟩
theorem d_law_919 : DC code 919 (.iadd) 1 920 := ⟨by decide +kernel, rfl⟩
theorem d_law_920 : DC code 920 (.iaload) 1 921 := ⟨by decide +kernel, rfl⟩
theorem d_law_921 : DC code 921 (.invokevirtual 101) 3 924 := ⟨by decide +kernel, rfl⟩
theorem d_law_924 : DB code 924 (.if_icmp .eq 764) 764 1688 927 := ⟨by decide +kernel, by decide, rfl⟩
theorem d_law_927 : DC code 927 (.iconst 0) 1 928 := ⟨by decide +kernel, rfl⟩
theorem d_law_928 : decode code 928 = .ok (.ireturn, 1) := by decide +kernel
theorem d_law_929 : DC code 929 (.aload_n 1) 1 930 := ⟨by decide +kernel, rfl⟩
theorem d_law_930 : DC code 930 (.invokevirtual 102) 3 933 := ⟨by decide +kernel, rfl⟩
theorem d_law_933 : DC code 933 (.aload_n 2) 1 934 := ⟨by decide +kernel, rfl⟩
theorem d_law_934 : DC code 934 (.invokevirtual 105) 3 937 := ⟨by decide +kernel, rfl⟩
theorem d_law_937 : DB code 937 (.if_icmp .eq 751) 751 1688 940 := ⟨by decide +kernel, by decide, rfl⟩
theorem d_law_940 : DC code 940 (.iconst 0) 1 941 := ⟨by decide +kernel, rfl⟩
theorem d_law_941 : decode code 941 = .ok (.ireturn, 1) := by decide +kernel
theorem d_law_942 : DC code 942 (.aload_n 1) 1 943 := ⟨by decide +kernel, rfl⟩
theorem d_law_943 : DC code 943 (.invokevirtual 106) 3 946 := ⟨by decide +kernel, rfl⟩
theorem d_law_946 : DC code 946 (.aload_n 2) 1 947 := ⟨by decide +kernel, rfl⟩
theorem d_law_947 : DC code 947 (.invokevirtual 109) 3 950 := ⟨by decide +kernel, rfl⟩
theorem d_law_950 : DB code 950 (.if_icmp .eq 738) 738 1688 953 := ⟨by decide +kernel, by decide, rfl⟩
theorem d_law_953 : DC code 953 (.iconst 0) 1 954 := ⟨by decide +kernel, rfl⟩
theorem d_law_954 : decode code 954 = .ok (.ireturn, 1) := by decide +kernel
theorem d_law_955 : DC code 955 (.aload_n 1) 1 956 := ⟨by decide +kernel, rfl⟩
theorem d_law_956 : DC code 956 (.aload_n 0) 1 957 := ⟨by decide +kernel, rfl⟩
theorem d_law_957 : DC code 957 (.iload_n 3) 1 958 := ⟨by decide +kernel, rfl⟩
theorem d_law_958 : DC code 958 (.iconst 1) 1 959 := ⟨by decide +kernel, rfl⟩
theorem d_law_959 : DC code 959 (.iadd) 1 960 := ⟨by decide +kernel, rfl⟩
theorem d_law_960 : DC code 960 (.iaload) 1 961 := ⟨by decide +kernel, rfl⟩
theorem d_law_961 : DC code 961 (.aload_n 0) 1 962 := ⟨by decide +kernel, rfl⟩
theorem d_law_962 : DC code 962 (.iload_n 3) 1 963 := ⟨by decide +kernel, rfl⟩
theorem d_law_963 : DC code 963 (.iconst 2) 1 964 := ⟨by decide +kernel, rfl⟩
theorem d_law_964 : DC code 964 (.iadd) 1 965 := ⟨by decide +kernel, rfl⟩
theorem d_law_965 : DC code 965 (.iaload) 1 966 := ⟨by decide +kernel, rfl⟩
theorem d_law_966 : DC code 966 (.invokevirtual 110) 3 969 := ⟨by decide +kernel, rfl⟩
theorem d_law_969 : DC code 969 (.aload_n 2) 1 970 := ⟨by decide +kernel, rfl⟩
theorem d_law_970 : DC code 970 (.aload_n 0) 1 971 := ⟨by decide +kernel, rfl⟩
theorem d_law_971 : DC code 971 (.iload_n 3) 1 972 := ⟨by decide +kernel, rfl⟩
theorem d_law_972 : DC code 972 (.iconst 1) 1 973 := ⟨by decide +kernel, rfl⟩
theorem d_law_973 : DC code 973 (.iadd) 1 974 := ⟨by decide +kernel, rfl⟩
theorem d_law_974 : DC code 974 (.iaload) 1 975 := ⟨by decide +kernel, rfl⟩
theorem d_law_975 : DC code 975 (.aload_n 0) 1 976 := ⟨by decide +kernel, rfl⟩
theorem d_law_976 : DC code 976 (.iload_n 3) 1 977 := ⟨by decide +kernel, rfl⟩
theorem d_law_977 : DC code 977 (.iconst 2) 1 978 := ⟨by decide +kernel, rfl⟩
theorem d_law_978 : DC code 978 (.iadd) 1 979 := ⟨by decide +kernel, rfl⟩
theorem d_law_979 : DC code 979 (.iaload) 1 980 := ⟨by decide +kernel, rfl⟩
theorem d_law_980 : DC code 980 (.invokevirtual 113) 3 983 := ⟨by decide +kernel, rfl⟩
theorem d_law_983 : DB code 983 (.if_icmp .eq 705) 705 1688 986 := ⟨by decide +kernel, by decide, rfl⟩
theorem d_law_986 : DC code 986 (.iconst 0) 1 987 := ⟨by decide +kernel, rfl⟩
theorem d_law_987 : decode code 987 = .ok (.ireturn, 1) := by decide +kernel
theorem d_law_988 : DC code 988 (.aload_n 1) 1 989 := ⟨by decide +kernel, rfl⟩
theorem d_law_989 : DC code 989 (.aload_n 0) 1 990 := ⟨by decide +kernel, rfl⟩
theorem d_law_990 : DC code 990 (.iload_n 3) 1 991 := ⟨by decide +kernel, rfl⟩
theorem d_law_991 : DC code 991 (.iconst 1) 1 992 := ⟨by decide +kernel, rfl⟩
theorem d_law_992 : DC code 992 (.iadd) 1 993 := ⟨by decide +kernel, rfl⟩
theorem d_law_993 : DC code 993 (.iaload) 1 994 := ⟨by decide +kernel, rfl⟩
theorem d_law_994 : DC code 994 (.aload_n 0) 1 995 := ⟨by decide +kernel, rfl⟩
theorem d_law_995 : DC code 995 (.iload_n 3) 1 996 := ⟨by decide +kernel, rfl⟩
theorem d_law_996 : DC code 996 (.iconst 2) 1 997 := ⟨by decide +kernel, rfl⟩
theorem d_law_997 : DC code 997 (.iadd) 1 998 := ⟨by decide +kernel, rfl⟩
theorem d_law_998 : DC code 998 (.iaload) 1 999 := ⟨by decide +kernel, rfl⟩
theorem d_law_999 : DC code 999 (.invokevirtual 114) 3 1002 := ⟨by decide +kernel, rfl⟩
theorem d_law_1002 : DC code 1002 (.aload_n 2) 1 1003 := ⟨by decide +kernel, rfl⟩
theorem d_law_1003 : DC code 1003 (.aload_n 0) 1 1004 := ⟨by decide +kernel, rfl⟩
theorem d_law_1004 : DC code 1004 (.iload_n 3) 1 1005 := ⟨by decide +kernel, rfl⟩
theorem d_law_1005 : DC code 1005 (.iconst 1) 1 1006 := ⟨by decide +kernel, rfl⟩
theorem d_law_1006 : DC code 1006 (.iadd) 1 1007 := ⟨by decide +kernel, rfl⟩
theorem d_law_1007 : DC code 1007 (.iaload) 1 1008 := ⟨by decide +kernel, rfl⟩
theorem d_law_1008 : DC code 1008 (.aload_n 0) 1 1009 := ⟨by decide +kernel, rfl⟩
theorem d_law_1009 : DC code 1009 (.iload_n 3) 1 1010 := ⟨by decide +kernel, rfl⟩
theorem d_law_1010 : DC code 1010 (.iconst 2) 1 1011 := ⟨by decide +kernel, rfl⟩
theorem d_law_1011 : DC code 1011 (.iadd) 1 1012 := ⟨by decide +kernel, rfl⟩
theorem d_law_1012 : DC code 1012 (.iaload) 1 1013 := ⟨by decide +kernel, rfl⟩
theorem d_law_1013 : DC code 1013 (.invokevirtual 117) 3 1016 := ⟨by decide +kernel, rfl⟩
theorem d_law_1016 : DB code 1016 (.if_icmp .eq 672) 672 1688 1019 := ⟨by decide +kernel, by decide, rfl⟩
theorem d_law_1019 : DC code 1019 (.iconst 0) 1 1020 := ⟨by decide +kernel, rfl⟩
theorem d_law_1020 : decode code 1020 = .ok (.ireturn, 1) := by decide +kernel
theorem d_law_1021 : DC code 1021 (.aload_n 1) 1 1022 := ⟨by decide +kernel, rfl⟩
theorem d_law_1022 : DC code 1022 (.aload_n 0) 1 1023 := ⟨by decide +kernel, rfl⟩
theorem d_law_1023 : DC code 1023 (.iload_n 3) 1 1024 := ⟨by decide +kernel, rfl⟩
theorem d_law_1024 : DC code 1024 (.iconst 1) 1 1025 := ⟨by decide +kernel, rfl⟩
theorem d_law_1025 : DC code 1025 (.iadd) 1 1026 := ⟨by decide +kernel, rfl⟩
theorem d_law_1026 : DC code 1026 (.iaload) 1 1027 := ⟨by decide +kernel, rfl⟩
theorem d_law_1027 : DC code 1027 (.aload_n 0) 1 1028 := ⟨by decide +kernel, rfl⟩
theorem d_law_1028 : DC code 1028 (.iload_n 3) 1 1029 := ⟨by decide +kernel, rfl⟩
theorem d_law_1029 : DC code 1029 (.iconst 2) 1 1030 := ⟨by decide +kernel, rfl⟩
theorem d_law_1030 : DC code 1030 (.iadd) 1 1031 := ⟨by decide +kernel, rfl⟩
theorem d_law_1031 : DC code 1031 (.iaload) 1 1032 := ⟨by decide +kernel, rfl⟩
theorem d_law_1032 : DC code 1032 (.aload_n 0) 1 1033 := ⟨by decide +kernel, rfl⟩
theorem d_law_1033 : DC code 1033 (.iload_n 3) 1 1034 := ⟨by decide +kernel, rfl⟩
theorem d_law_1034 : DC code 1034 (.iconst 3) 1 1035 := ⟨by decide +kernel, rfl⟩
theorem d_law_1035 : DC code 1035 (.iadd) 1 1036 := ⟨by decide +kernel, rfl⟩
theorem d_law_1036 : DC code 1036 (.iaload) 1 1037 := ⟨by decide +kernel, rfl⟩
theorem d_law_1037 : DC code 1037 (.invokevirtual 118) 3 1040 := ⟨by decide +kernel, rfl⟩
theorem d_law_1040 : DC code 1040 (.aload_n 2) 1 1041 := ⟨by decide +kernel, rfl⟩
theorem d_law_1041 : DC code 1041 (.aload_n 0) 1 1042 := ⟨by decide +kernel, rfl⟩
theorem d_law_1042 : DC code 1042 (.iload_n 3) 1 1043 := ⟨by decide +kernel, rfl⟩
theorem d_law_1043 : DC code 1043 (.iconst 1) 1 1044 := ⟨by decide +kernel, rfl⟩
theorem d_law_1044 : DC code 1044 (.iadd) 1 1045 := ⟨by decide +kernel, rfl⟩
theorem d_law_1045 : DC code 1045 (.iaload) 1 1046 := ⟨by decide +kernel, rfl⟩
theorem d_law_1046 : DC code 1046 (.aload_n 0) 1 1047 := ⟨by decide +kernel, rfl⟩
theorem d_law_1047 : DC code 1047 (.iload_n 3) 1 1048 := ⟨by decide +kernel, rfl⟩
theorem d_law_1048 : DC code 1048 (.iconst 2) 1 1049 := ⟨by decide +kernel, rfl⟩
theorem d_law_1049 : DC code 1049 (.iadd) 1 1050 := ⟨by decide +kernel, rfl⟩
theorem d_law_1050 : DC code 1050 (.iaload) 1 1051 := ⟨by decide +kernel, rfl⟩
theorem d_law_1051 : DC code 1051 (.aload_n 0) 1 1052 := ⟨by decide +kernel, rfl⟩
theorem d_law_1052 : DC code 1052 (.iload_n 3) 1 1053 := ⟨by decide +kernel, rfl⟩
theorem d_law_1053 : DC code 1053 (.iconst 3) 1 1054 := ⟨by decide +kernel, rfl⟩
theorem d_law_1054 : DC code 1054 (.iadd) 1 1055 := ⟨by decide +kernel, rfl⟩
theorem d_law_1055 : DC code 1055 (.iaload) 1 1056 := ⟨by decide +kernel, rfl⟩
theorem d_law_1056 : DC code 1056 (.invokevirtual 121) 3 1059 := ⟨by decide +kernel, rfl⟩
theorem d_law_1059 : DB code 1059 (.if_icmp .eq 629) 629 1688 1062 := ⟨by decide +kernel, by decide, rfl⟩
theorem d_law_1062 : DC code 1062 (.iconst 0) 1 1063 := ⟨by decide +kernel, rfl⟩
theorem d_law_1063 : decode code 1063 = .ok (.ireturn, 1) := by decide +kernel
theorem d_law_1064 : DC code 1064 (.aload_n 1) 1 1065 := ⟨by decide +kernel, rfl⟩
theorem d_law_1065 : DC code 1065 (.invokevirtual 122) 3 1068 := ⟨by decide +kernel, rfl⟩
theorem d_law_1068 : DC code 1068 (.aload_n 2) 1 1069 := ⟨by decide +kernel, rfl⟩
theorem d_law_1069 : DC code 1069 (.invokevirtual 125) 3 1072 := ⟨by decide +kernel, rfl⟩
theorem d_law_1072 : DB code 1072 (.if_icmp .eq 616) 616 1688 1075 := ⟨by decide +kernel, by decide, rfl⟩
theorem d_law_1075 : DC code 1075 (.iconst 0) 1 1076 := ⟨by decide +kernel, rfl⟩
theorem d_law_1076 : decode code 1076 = .ok (.ireturn, 1) := by decide +kernel
theorem d_law_1077 : DC code 1077 (.aload_n 1) 1 1078 := ⟨by decide +kernel, rfl⟩
theorem d_law_1078 : DC code 1078 (.aload_n 0) 1 1079 := ⟨by decide +kernel, rfl⟩
theorem d_law_1079 : DC code 1079 (.iload_n 3) 1 1080 := ⟨by decide +kernel, rfl⟩
theorem d_law_1080 : DC code 1080 (.iconst 1) 1 1081 := ⟨by decide +kernel, rfl⟩
theorem d_law_1081 : DC code 1081 (.iadd) 1 1082 := ⟨by decide +kernel, rfl⟩
theorem d_law_1082 : DC code 1082 (.iaload) 1 1083 := ⟨by decide +kernel, rfl⟩
theorem d_law_1083 : DC code 1083 (.invokevirtual 126) 3 1086 := ⟨by decide +kernel, rfl⟩
theorem d_law_1086 : DC code 1086 (.aload_n 2) 1 1087 := ⟨by decide +kernel, rfl⟩
theorem d_law_1087 : DC code 1087 (.aload_n 0) 1 1088 := ⟨by decide +kernel, rfl⟩
theorem d_law_1088 : DC code 1088 (.iload_n 3) 1 1089 := ⟨by decide +kernel, rfl⟩
theorem d_law_1089 : DC code 1089 (.iconst 1) 1 1090 := ⟨by decide +kernel, rfl⟩
theorem d_law_1090 : DC code 1090 (.iadd) 1 1091 := ⟨by decide +kernel, rfl⟩
theorem d_law_1091 : DC code 1091 (.iaload) 1 1092 := ⟨by decide +kernel, rfl⟩
theorem d_law_1092 : DC code 1092 (.invokevirtual 129) 3 1095 := ⟨by decide +kernel, rfl⟩
theorem d_law_1095 : DB code 1095 (.if_icmp .eq 593) 593 1688 1098 := ⟨by decide +kernel, by decide, rfl⟩
theorem d_law_1098 : DC code 1098 (.iconst 0) 1 1099 := ⟨by decide +kernel, rfl⟩
theorem d_law_1099 : decode code 1099 = .ok (.ireturn, 1) := by decide +kernel
theorem d_law_1100 : DC code 1100 (.aload_n 1) 1 1101 := ⟨by decide +kernel, rfl⟩
theorem d_law_1101 : DC code 1101 (.aload_n 0) 1 1102 := ⟨by decide +kernel, rfl⟩
theorem d_law_1102 : DC code 1102 (.iload_n 3) 1 1103 := ⟨by decide +kernel, rfl⟩
theorem d_law_1103 : DC code 1103 (.iconst 1) 1 1104 := ⟨by decide +kernel, rfl⟩
theorem d_law_1104 : DC code 1104 (.iadd) 1 1105 := ⟨by decide +kernel, rfl⟩
theorem d_law_1105 : DC code 1105 (.iaload) 1 1106 := ⟨by decide +kernel, rfl⟩
theorem d_law_1106 : DC code 1106 (.aload_n 0) 1 1107 := ⟨by decide +kernel, rfl⟩
theorem d_law_1107 : DC code 1107 (.iload_n 3) 1 1108 := ⟨by decide +kernel, rfl⟩
theorem d_law_1108 : DC code 1108 (.iconst 2) 1 1109 := ⟨by decide +kernel, rfl⟩
theorem d_law_1109 : DC code 1109 (.iadd) 1 1110 := ⟨by decide +kernel, rfl⟩
theorem d_law_1110 : DC code 1110 (.iaload) 1 1111 := ⟨by decide +kernel, rfl⟩
theorem d_law_1111 : DC code 1111 (.invokevirtual 130) 3 1114 := ⟨by decide +kernel, rfl⟩
theorem d_law_1114 : DC code 1114 (.aload_n 2) 1 1115 := ⟨by decide +kernel, rfl⟩
theorem d_law_1115 : DC code 1115 (.aload_n 0) 1 1116 := ⟨by decide +kernel, rfl⟩
theorem d_law_1116 : DC code 1116 (.iload_n 3) 1 1117 := ⟨by decide +kernel, rfl⟩
theorem d_law_1117 : DC code 1117 (.iconst 1) 1 1118 := ⟨by decide +kernel, rfl⟩
theorem d_law_1118 : DC code 1118 (.iadd) 1 1119 := ⟨by decide +kernel, rfl⟩
theorem d_law_1119 : DC code 1119 (.iaload) 1 1120 := ⟨by decide +kernel, rfl⟩
theorem d_law_1120 : DC code 1120 (.aload_n 0) 1 1121 := ⟨by decide +kernel, rfl⟩
theorem d_law_1121 : DC code 1121 (.iload_n 3) 1 1122 := ⟨by decide +kernel, rfl⟩
theorem d_law_1122 : DC code 1122 (.iconst 2) 1 1123 := ⟨by decide +kernel, rfl⟩
theorem d_law_1123 : DC code 1123 (.iadd) 1 1124 := ⟨by decide +kernel, rfl⟩
theorem d_law_1124 : DC code 1124 (.iaload) 1 1125 := ⟨by decide +kernel, rfl⟩
theorem d_law_1125 : DC code 1125 (.invokevirtual 133) 3 1128 := ⟨by decide +kernel, rfl⟩
theorem d_law_1128 : DB code 1128 (.if_icmp .eq 560) 560 1688 1131 := ⟨by decide +kernel, by decide, rfl⟩
theorem d_law_1131 : DC code 1131 (.iconst 0) 1 1132 := ⟨by decide +kernel, rfl⟩
theorem d_law_1132 : decode code 1132 = .ok (.ireturn, 1) := by decide +kernel
theorem d_law_1133 : DC code 1133 (.aload_n 1) 1 1134 := ⟨by decide +kernel, rfl⟩
theorem d_law_1134 : DC code 1134 (.invokevirtual 134) 3 1137 := ⟨by decide +kernel, rfl⟩
theorem d_law_1137 : DC code 1137 (.aload_n 2) 1 1138 := ⟨by decide +kernel, rfl⟩
theorem d_law_1138 : DC code 1138 (.invokevirtual 137) 3 1141 := ⟨by decide +kernel, rfl⟩
theorem d_law_1141 : DB code 1141 (.if_icmp .eq 547) 547 1688 1144 := ⟨by decide +kernel, by decide, rfl⟩
theorem d_law_1144 : DC code 1144 (.iconst 0) 1 1145 := ⟨by decide +kernel, rfl⟩
theorem d_law_1145 : decode code 1145 = .ok (.ireturn, 1) := by decide +kernel
theorem d_law_1146 : DC code 1146 (.aload_n 1) 1 1147 := ⟨by decide +kernel, rfl⟩
theorem d_law_1147 : DC code 1147 (.aload_n 0) 1 1148 := ⟨by decide +kernel, rfl⟩
theorem d_law_1148 : DC code 1148 (.iload_n 3) 1 1149 := ⟨by decide +kernel, rfl⟩
theorem d_law_1149 : DC code 1149 (.iconst 1) 1 1150 := ⟨by decide +kernel, rfl⟩
theorem d_law_1150 : DC code 1150 (.iadd) 1 1151 := ⟨by decide +kernel, rfl⟩
theorem d_law_1151 : DC code 1151 (.iaload) 1 1152 := ⟨by decide +kernel, rfl⟩
theorem d_law_1152 : DC code 1152 (.aload_n 0) 1 1153 := ⟨by decide +kernel, rfl⟩
theorem d_law_1153 : DC code 1153 (.iload_n 3) 1 1154 := ⟨by decide +kernel, rfl⟩
theorem d_law_1154 : DC code 1154 (.iconst 2) 1 1155 := ⟨by decide +kernel, rfl⟩
theorem d_law_1155 : DC code 1155 (.iadd) 1 1156 := ⟨by decide +kernel, rfl⟩
theorem d_law_1156 : DC code 1156 (.iaload) 1 1157 := ⟨by decide +kernel, rfl⟩
theorem d_law_1157 : DC code 1157 (.invokevirtual 138) 3 1160 := ⟨by decide +kernel, rfl⟩
theorem d_law_1160 : DC code 1160 (.aload_n 2) 1 1161 := ⟨by decide +kernel, rfl⟩
theorem d_law_1161 : DC code 1161 (.aload_n 0) 1 1162 := ⟨by decide +kernel, rfl⟩
theorem d_law_1162 : DC code 1162 (.iload_n 3) 1 1163 := ⟨by decide +kernel, rfl⟩
theorem d_law_1163 : DC code 1163 (.iconst 1) 1 1164 := ⟨by decide +kernel, rfl⟩
theorem d_law_1164 : DC code 1164 (.iadd) 1 1165 := ⟨by decide +kernel, rfl⟩
theorem d_law_1165 : DC code 1165 (.iaload) 1 1166 := ⟨by decide +kernel, rfl⟩
theorem d_law_1166 : DC code 1166 (.aload_n 0) 1 1167 := ⟨by decide +kernel, rfl⟩
theorem d_law_1167 : DC code 1167 (.iload_n 3) 1 1168 := ⟨by decide +kernel, rfl⟩
theorem d_law_1168 : DC code 1168 (.iconst 2) 1 1169 := ⟨by decide +kernel, rfl⟩
theorem d_law_1169 : DC code 1169 (.iadd) 1 1170 := ⟨by decide +kernel, rfl⟩
theorem d_law_1170 : DC code 1170 (.iaload) 1 1171 := ⟨by decide +kernel, rfl⟩
theorem d_law_1171 : DC code 1171 (.invokevirtual 141) 3 1174 := ⟨by decide +kernel, rfl⟩
theorem d_law_1174 : DB code 1174 (.if_icmp .eq 514) 514 1688 1177 := ⟨by decide +kernel, by decide, rfl⟩
theorem d_law_1177 : DC code 1177 (.iconst 0) 1 1178 := ⟨by decide +kernel, rfl⟩
theorem d_law_1178 : decode code 1178 = .ok (.ireturn, 1) := by decide +kernel
theorem d_law_1179 : DC code 1179 (.aload_n 1) 1 1180 := ⟨by decide +kernel, rfl⟩
theorem d_law_1180 : DC code 1180 (.aload_n 0) 1 1181 := ⟨by decide +kernel, rfl⟩
theorem d_law_1181 : DC code 1181 (.iload_n 3) 1 1182 := ⟨by decide +kernel, rfl⟩
theorem d_law_1182 : DC code 1182 (.iconst 1) 1 1183 := ⟨by decide +kernel, rfl⟩
theorem d_law_1183 : DC code 1183 (.iadd) 1 1184 := ⟨by decide +kernel, rfl⟩
theorem d_law_1184 : DC code 1184 (.iaload) 1 1185 := ⟨by decide +kernel, rfl⟩
theorem d_law_1185 : DC code 1185 (.invokevirtual 142) 3 1188 := ⟨by decide +kernel, rfl⟩
theorem d_law_1188 : DC code 1188 (.aload_n 2) 1 1189 := ⟨by decide +kernel, rfl⟩
theorem d_law_1189 : DC code 1189 (.aload_n 0) 1 1190 := ⟨by decide +kernel, rfl⟩
theorem d_law_1190 : DC code 1190 (.iload_n 3) 1 1191 := ⟨by decide +kernel, rfl⟩
theorem d_law_1191 : DC code 1191 (.iconst 1) 1 1192 := ⟨by decide +kernel, rfl⟩
theorem d_law_1192 : DC code 1192 (.iadd) 1 1193 := ⟨by decide +kernel, rfl⟩
theorem d_law_1193 : DC code 1193 (.iaload) 1 1194 := ⟨by decide +kernel, rfl⟩
theorem d_law_1194 : DC code 1194 (.invokevirtual 145) 3 1197 := ⟨by decide +kernel, rfl⟩
theorem d_law_1197 : DB code 1197 (.if_icmp .eq 491) 491 1688 1200 := ⟨by decide +kernel, by decide, rfl⟩
theorem d_law_1200 : DC code 1200 (.iconst 0) 1 1201 := ⟨by decide +kernel, rfl⟩
theorem d_law_1201 : decode code 1201 = .ok (.ireturn, 1) := by decide +kernel
theorem d_law_1202 : DC code 1202 (.aload_n 1) 1 1203 := ⟨by decide +kernel, rfl⟩
theorem d_law_1203 : DC code 1203 (.invokevirtual 146) 3 1206 := ⟨by decide +kernel, rfl⟩
theorem d_law_1206 : DC code 1206 (.aload_n 2) 1 1207 := ⟨by decide +kernel, rfl⟩
theorem d_law_1207 : DC code 1207 (.invokevirtual 149) 3 1210 := ⟨by decide +kernel, rfl⟩
theorem d_law_1210 : DB code 1210 (.if_icmp .eq 478) 478 1688 1213 := ⟨by decide +kernel, by decide, rfl⟩
theorem d_law_1213 : DC code 1213 (.iconst 0) 1 1214 := ⟨by decide +kernel, rfl⟩
theorem d_law_1214 : decode code 1214 = .ok (.ireturn, 1) := by decide +kernel
theorem d_law_1215 : DC code 1215 (.aload_n 1) 1 1216 := ⟨by decide +kernel, rfl⟩
theorem d_law_1216 : DC code 1216 (.invokevirtual 150) 3 1219 := ⟨by decide +kernel, rfl⟩
theorem d_law_1219 : DC code 1219 (.aload_n 2) 1 1220 := ⟨by decide +kernel, rfl⟩
theorem d_law_1220 : DC code 1220 (.invokevirtual 153) 3 1223 := ⟨by decide +kernel, rfl⟩
theorem d_law_1223 : DB code 1223 (.if_icmp .eq 465) 465 1688 1226 := ⟨by decide +kernel, by decide, rfl⟩
theorem d_law_1226 : DC code 1226 (.iconst 0) 1 1227 := ⟨by decide +kernel, rfl⟩
theorem d_law_1227 : decode code 1227 = .ok (.ireturn, 1) := by decide +kernel
theorem d_law_1228 : DC code 1228 (.aload_n 1) 1 1229 := ⟨by decide +kernel, rfl⟩
theorem d_law_1229 : DC code 1229 (.aload_n 0) 1 1230 := ⟨by decide +kernel, rfl⟩
theorem d_law_1230 : DC code 1230 (.iload_n 3) 1 1231 := ⟨by decide +kernel, rfl⟩
theorem d_law_1231 : DC code 1231 (.iconst 1) 1 1232 := ⟨by decide +kernel, rfl⟩
theorem d_law_1232 : DC code 1232 (.iadd) 1 1233 := ⟨by decide +kernel, rfl⟩
theorem d_law_1233 : DC code 1233 (.iaload) 1 1234 := ⟨by decide +kernel, rfl⟩
theorem d_law_1234 : DC code 1234 (.aload_n 0) 1 1235 := ⟨by decide +kernel, rfl⟩
theorem d_law_1235 : DC code 1235 (.iload_n 3) 1 1236 := ⟨by decide +kernel, rfl⟩
theorem d_law_1236 : DC code 1236 (.iconst 2) 1 1237 := ⟨by decide +kernel, rfl⟩
theorem d_law_1237 : DC code 1237 (.iadd) 1 1238 := ⟨by decide +kernel, rfl⟩
theorem d_law_1238 : DC code 1238 (.iaload) 1 1239 := ⟨by decide +kernel, rfl⟩
theorem d_law_1239 : DC code 1239 (.invokevirtual 154) 3 1242 := ⟨by decide +kernel, rfl⟩
theorem d_law_1242 : DC code 1242 (.aload_n 2) 1 1243 := ⟨by decide +kernel, rfl⟩
theorem d_law_1243 : DC code 1243 (.aload_n 0) 1 1244 := ⟨by decide +kernel, rfl⟩
theorem d_law_1244 : DC code 1244 (.iload_n 3) 1 1245 := ⟨by decide +kernel, rfl⟩
theorem d_law_1245 : DC code 1245 (.iconst 1) 1 1246 := ⟨by decide +kernel, rfl⟩
theorem d_law_1246 : DC code 1246 (.iadd) 1 1247 := ⟨by decide +kernel, rfl⟩
theorem d_law_1247 : DC code 1247 (.iaload) 1 1248 := ⟨by decide +kernel, rfl⟩
theorem d_law_1248 : DC code 1248 (.aload_n 0) 1 1249 := ⟨by decide +kernel, rfl⟩
theorem d_law_1249 : DC code 1249 (.iload_n 3) 1 1250 := ⟨by decide +kernel, rfl⟩
theorem d_law_1250 : DC code 1250 (.iconst 2) 1 1251 := ⟨by decide +kernel, rfl⟩
theorem d_law_1251 : DC code 1251 (.iadd) 1 1252 := ⟨by decide +kernel, rfl⟩
theorem d_law_1252 : DC code 1252 (.iaload) 1 1253 := ⟨by decide +kernel, rfl⟩
theorem d_law_1253 : DC code 1253 (.invokevirtual 157) 3 1256 := ⟨by decide +kernel, rfl⟩
theorem d_law_1256 : DB code 1256 (.if_icmp .eq 432) 432 1688 1259 := ⟨by decide +kernel, by decide, rfl⟩
theorem d_law_1259 : DC code 1259 (.iconst 0) 1 1260 := ⟨by decide +kernel, rfl⟩
theorem d_law_1260 : decode code 1260 = .ok (.ireturn, 1) := by decide +kernel
theorem d_law_1261 : DC code 1261 (.aload_n 1) 1 1262 := ⟨by decide +kernel, rfl⟩
theorem d_law_1262 : DC code 1262 (.aload_n 0) 1 1263 := ⟨by decide +kernel, rfl⟩
theorem d_law_1263 : DC code 1263 (.iload_n 3) 1 1264 := ⟨by decide +kernel, rfl⟩
theorem d_law_1264 : DC code 1264 (.iconst 1) 1 1265 := ⟨by decide +kernel, rfl⟩
theorem d_law_1265 : DC code 1265 (.iadd) 1 1266 := ⟨by decide +kernel, rfl⟩
theorem d_law_1266 : DC code 1266 (.iaload) 1 1267 := ⟨by decide +kernel, rfl⟩
theorem d_law_1267 : DC code 1267 (.invokevirtual 158) 3 1270 := ⟨by decide +kernel, rfl⟩
theorem d_law_1270 : DC code 1270 (.aload_n 2) 1 1271 := ⟨by decide +kernel, rfl⟩
theorem d_law_1271 : DC code 1271 (.aload_n 0) 1 1272 := ⟨by decide +kernel, rfl⟩
theorem d_law_1272 : DC code 1272 (.iload_n 3) 1 1273 := ⟨by decide +kernel, rfl⟩
theorem d_law_1273 : DC code 1273 (.iconst 1) 1 1274 := ⟨by decide +kernel, rfl⟩
theorem d_law_1274 : DC code 1274 (.iadd) 1 1275 := ⟨by decide +kernel, rfl⟩
theorem d_law_1275 : DC code 1275 (.iaload) 1 1276 := ⟨by decide +kernel, rfl⟩
theorem d_law_1276 : DC code 1276 (.invokevirtual 161) 3 1279 := ⟨by decide +kernel, rfl⟩
theorem d_law_1279 : DB code 1279 (.if_icmp .eq 409) 409 1688 1282 := ⟨by decide +kernel, by decide, rfl⟩
theorem d_law_1282 : DC code 1282 (.iconst 0) 1 1283 := ⟨by decide +kernel, rfl⟩
theorem d_law_1283 : decode code 1283 = .ok (.ireturn, 1) := by decide +kernel
theorem d_law_1284 : DC code 1284 (.aload_n 1) 1 1285 := ⟨by decide +kernel, rfl⟩
theorem d_law_1285 : DC code 1285 (.aload_n 0) 1 1286 := ⟨by decide +kernel, rfl⟩
theorem d_law_1286 : DC code 1286 (.iload_n 3) 1 1287 := ⟨by decide +kernel, rfl⟩
theorem d_law_1287 : DC code 1287 (.iconst 1) 1 1288 := ⟨by decide +kernel, rfl⟩
theorem d_law_1288 : DC code 1288 (.iadd) 1 1289 := ⟨by decide +kernel, rfl⟩
theorem d_law_1289 : DC code 1289 (.iaload) 1 1290 := ⟨by decide +kernel, rfl⟩
theorem d_law_1290 : DC code 1290 (.aload_n 0) 1 1291 := ⟨by decide +kernel, rfl⟩
theorem d_law_1291 : DC code 1291 (.iload_n 3) 1 1292 := ⟨by decide +kernel, rfl⟩
theorem d_law_1292 : DC code 1292 (.iconst 2) 1 1293 := ⟨by decide +kernel, rfl⟩
theorem d_law_1293 : DC code 1293 (.iadd) 1 1294 := ⟨by decide +kernel, rfl⟩
theorem d_law_1294 : DC code 1294 (.iaload) 1 1295 := ⟨by decide +kernel, rfl⟩
theorem d_law_1295 : DC code 1295 (.invokevirtual 162) 3 1298 := ⟨by decide +kernel, rfl⟩
theorem d_law_1298 : DC code 1298 (.aload_n 2) 1 1299 := ⟨by decide +kernel, rfl⟩
theorem d_law_1299 : DC code 1299 (.aload_n 0) 1 1300 := ⟨by decide +kernel, rfl⟩
theorem d_law_1300 : DC code 1300 (.iload_n 3) 1 1301 := ⟨by decide +kernel, rfl⟩
theorem d_law_1301 : DC code 1301 (.iconst 1) 1 1302 := ⟨by decide +kernel, rfl⟩
theorem d_law_1302 : DC code 1302 (.iadd) 1 1303 := ⟨by decide +kernel, rfl⟩
theorem d_law_1303 : DC code 1303 (.iaload) 1 1304 := ⟨by decide +kernel, rfl⟩
theorem d_law_1304 : DC code 1304 (.aload_n 0) 1 1305 := ⟨by decide +kernel, rfl⟩
theorem d_law_1305 : DC code 1305 (.iload_n 3) 1 1306 := ⟨by decide +kernel, rfl⟩
theorem d_law_1306 : DC code 1306 (.iconst 2) 1 1307 := ⟨by decide +kernel, rfl⟩
theorem d_law_1307 : DC code 1307 (.iadd) 1 1308 := ⟨by decide +kernel, rfl⟩
theorem d_law_1308 : DC code 1308 (.iaload) 1 1309 := ⟨by decide +kernel, rfl⟩
theorem d_law_1309 : DC code 1309 (.invokevirtual 165) 3 1312 := ⟨by decide +kernel, rfl⟩
theorem d_law_1312 : DB code 1312 (.if_icmp .eq 376) 376 1688 1315 := ⟨by decide +kernel, by decide, rfl⟩
theorem d_law_1315 : DC code 1315 (.iconst 0) 1 1316 := ⟨by decide +kernel, rfl⟩
theorem d_law_1316 : decode code 1316 = .ok (.ireturn, 1) := by decide +kernel
theorem d_law_1317 : DC code 1317 (.aload_n 1) 1 1318 := ⟨by decide +kernel, rfl⟩
theorem d_law_1318 : DC code 1318 (.aload_n 0) 1 1319 := ⟨by decide +kernel, rfl⟩
theorem d_law_1319 : DC code 1319 (.iload_n 3) 1 1320 := ⟨by decide +kernel, rfl⟩
theorem d_law_1320 : DC code 1320 (.iconst 1) 1 1321 := ⟨by decide +kernel, rfl⟩
theorem d_law_1321 : DC code 1321 (.iadd) 1 1322 := ⟨by decide +kernel, rfl⟩
theorem d_law_1322 : DC code 1322 (.iaload) 1 1323 := ⟨by decide +kernel, rfl⟩
theorem d_law_1323 : DC code 1323 (.aload_n 0) 1 1324 := ⟨by decide +kernel, rfl⟩
theorem d_law_1324 : DC code 1324 (.iload_n 3) 1 1325 := ⟨by decide +kernel, rfl⟩
theorem d_law_1325 : DC code 1325 (.iconst 2) 1 1326 := ⟨by decide +kernel, rfl⟩
theorem d_law_1326 : DC code 1326 (.iadd) 1 1327 := ⟨by decide +kernel, rfl⟩
theorem d_law_1327 : DC code 1327 (.iaload) 1 1328 := ⟨by decide +kernel, rfl⟩
theorem d_law_1328 : DC code 1328 (.invokevirtual 166) 3 1331 := ⟨by decide +kernel, rfl⟩
theorem d_law_1331 : DC code 1331 (.aload_n 2) 1 1332 := ⟨by decide +kernel, rfl⟩
theorem d_law_1332 : DC code 1332 (.aload_n 0) 1 1333 := ⟨by decide +kernel, rfl⟩
theorem d_law_1333 : DC code 1333 (.iload_n 3) 1 1334 := ⟨by decide +kernel, rfl⟩
theorem d_law_1334 : DC code 1334 (.iconst 1) 1 1335 := ⟨by decide +kernel, rfl⟩
theorem d_law_1335 : DC code 1335 (.iadd) 1 1336 := ⟨by decide +kernel, rfl⟩
theorem d_law_1336 : DC code 1336 (.iaload) 1 1337 := ⟨by decide +kernel, rfl⟩
theorem d_law_1337 : DC code 1337 (.aload_n 0) 1 1338 := ⟨by decide +kernel, rfl⟩
theorem d_law_1338 : DC code 1338 (.iload_n 3) 1 1339 := ⟨by decide +kernel, rfl⟩
theorem d_law_1339 : DC code 1339 (.iconst 2) 1 1340 := ⟨by decide +kernel, rfl⟩
theorem d_law_1340 : DC code 1340 (.iadd) 1 1341 := ⟨by decide +kernel, rfl⟩
theorem d_law_1341 : DC code 1341 (.iaload) 1 1342 := ⟨by decide +kernel, rfl⟩
theorem d_law_1342 : DC code 1342 (.invokevirtual 169) 3 1345 := ⟨by decide +kernel, rfl⟩
theorem d_law_1345 : DB code 1345 (.if_icmp .eq 343) 343 1688 1348 := ⟨by decide +kernel, by decide, rfl⟩
theorem d_law_1348 : DC code 1348 (.iconst 0) 1 1349 := ⟨by decide +kernel, rfl⟩
theorem d_law_1349 : decode code 1349 = .ok (.ireturn, 1) := by decide +kernel
theorem d_law_1350 : DC code 1350 (.aload_n 1) 1 1351 := ⟨by decide +kernel, rfl⟩
theorem d_law_1351 : DC code 1351 (.aload_n 0) 1 1352 := ⟨by decide +kernel, rfl⟩
theorem d_law_1352 : DC code 1352 (.iload_n 3) 1 1353 := ⟨by decide +kernel, rfl⟩
theorem d_law_1353 : DC code 1353 (.iconst 1) 1 1354 := ⟨by decide +kernel, rfl⟩
theorem d_law_1354 : DC code 1354 (.iadd) 1 1355 := ⟨by decide +kernel, rfl⟩
theorem d_law_1355 : DC code 1355 (.iaload) 1 1356 := ⟨by decide +kernel, rfl⟩
theorem d_law_1356 : DC code 1356 (.aload_n 0) 1 1357 := ⟨by decide +kernel, rfl⟩
theorem d_law_1357 : DC code 1357 (.iload_n 3) 1 1358 := ⟨by decide +kernel, rfl⟩
theorem d_law_1358 : DC code 1358 (.iconst 2) 1 1359 := ⟨by decide +kernel, rfl⟩
theorem d_law_1359 : DC code 1359 (.iadd) 1 1360 := ⟨by decide +kernel, rfl⟩
theorem d_law_1360 : DC code 1360 (.iaload) 1 1361 := ⟨by decide +kernel, rfl⟩
theorem d_law_1361 : DC code 1361 (.aload_n 0) 1 1362 := ⟨by decide +kernel, rfl⟩
theorem d_law_1362 : DC code 1362 (.iload_n 3) 1 1363 := ⟨by decide +kernel, rfl⟩
theorem d_law_1363 : DC code 1363 (.iconst 3) 1 1364 := ⟨by decide +kernel, rfl⟩
theorem d_law_1364 : DC code 1364 (.iadd) 1 1365 := ⟨by decide +kernel, rfl⟩
theorem d_law_1365 : DC code 1365 (.iaload) 1 1366 := ⟨by decide +kernel, rfl⟩
theorem d_law_1366 : DC code 1366 (.invokevirtual 170) 3 1369 := ⟨by decide +kernel, rfl⟩
theorem d_law_1369 : DC code 1369 (.aload_n 2) 1 1370 := ⟨by decide +kernel, rfl⟩
theorem d_law_1370 : DC code 1370 (.aload_n 0) 1 1371 := ⟨by decide +kernel, rfl⟩
theorem d_law_1371 : DC code 1371 (.iload_n 3) 1 1372 := ⟨by decide +kernel, rfl⟩
theorem d_law_1372 : DC code 1372 (.iconst 1) 1 1373 := ⟨by decide +kernel, rfl⟩
theorem d_law_1373 : DC code 1373 (.iadd) 1 1374 := ⟨by decide +kernel, rfl⟩
theorem d_law_1374 : DC code 1374 (.iaload) 1 1375 := ⟨by decide +kernel, rfl⟩
theorem d_law_1375 : DC code 1375 (.aload_n 0) 1 1376 := ⟨by decide +kernel, rfl⟩
theorem d_law_1376 : DC code 1376 (.iload_n 3) 1 1377 := ⟨by decide +kernel, rfl⟩
theorem d_law_1377 : DC code 1377 (.iconst 2) 1 1378 := ⟨by decide +kernel, rfl⟩
theorem d_law_1378 : DC code 1378 (.iadd) 1 1379 := ⟨by decide +kernel, rfl⟩
theorem d_law_1379 : DC code 1379 (.iaload) 1 1380 := ⟨by decide +kernel, rfl⟩
theorem d_law_1380 : DC code 1380 (.aload_n 0) 1 1381 := ⟨by decide +kernel, rfl⟩
theorem d_law_1381 : DC code 1381 (.iload_n 3) 1 1382 := ⟨by decide +kernel, rfl⟩
theorem d_law_1382 : DC code 1382 (.iconst 3) 1 1383 := ⟨by decide +kernel, rfl⟩
theorem d_law_1383 : DC code 1383 (.iadd) 1 1384 := ⟨by decide +kernel, rfl⟩
theorem d_law_1384 : DC code 1384 (.iaload) 1 1385 := ⟨by decide +kernel, rfl⟩
theorem d_law_1385 : DC code 1385 (.invokevirtual 173) 3 1388 := ⟨by decide +kernel, rfl⟩
theorem d_law_1388 : DB code 1388 (.if_icmp .eq 300) 300 1688 1391 := ⟨by decide +kernel, by decide, rfl⟩
theorem d_law_1391 : DC code 1391 (.iconst 0) 1 1392 := ⟨by decide +kernel, rfl⟩
theorem d_law_1392 : decode code 1392 = .ok (.ireturn, 1) := by decide +kernel
theorem d_law_1393 : DC code 1393 (.aload_n 1) 1 1394 := ⟨by decide +kernel, rfl⟩
theorem d_law_1394 : DC code 1394 (.aload_n 0) 1 1395 := ⟨by decide +kernel, rfl⟩
theorem d_law_1395 : DC code 1395 (.iload_n 3) 1 1396 := ⟨by decide +kernel, rfl⟩
theorem d_law_1396 : DC code 1396 (.iconst 1) 1 1397 := ⟨by decide +kernel, rfl⟩
theorem d_law_1397 : DC code 1397 (.iadd) 1 1398 := ⟨by decide +kernel, rfl⟩
theorem d_law_1398 : DC code 1398 (.iaload) 1 1399 := ⟨by decide +kernel, rfl⟩
theorem d_law_1399 : DC code 1399 (.aload_n 0) 1 1400 := ⟨by decide +kernel, rfl⟩
theorem d_law_1400 : DC code 1400 (.iload_n 3) 1 1401 := ⟨by decide +kernel, rfl⟩
theorem d_law_1401 : DC code 1401 (.iconst 2) 1 1402 := ⟨by decide +kernel, rfl⟩
theorem d_law_1402 : DC code 1402 (.iadd) 1 1403 := ⟨by decide +kernel, rfl⟩
theorem d_law_1403 : DC code 1403 (.iaload) 1 1404 := ⟨by decide +kernel, rfl⟩
theorem d_law_1404 : DC code 1404 (.aload_n 0) 1 1405 := ⟨by decide +kernel, rfl⟩
theorem d_law_1405 : DC code 1405 (.iload_n 3) 1 1406 := ⟨by decide +kernel, rfl⟩
theorem d_law_1406 : DC code 1406 (.iconst 3) 1 1407 := ⟨by decide +kernel, rfl⟩
theorem d_law_1407 : DC code 1407 (.iadd) 1 1408 := ⟨by decide +kernel, rfl⟩
theorem d_law_1408 : DC code 1408 (.iaload) 1 1409 := ⟨by decide +kernel, rfl⟩
theorem d_law_1409 : DC code 1409 (.invokevirtual 174) 3 1412 := ⟨by decide +kernel, rfl⟩
theorem d_law_1412 : DC code 1412 (.aload_n 2) 1 1413 := ⟨by decide +kernel, rfl⟩
theorem d_law_1413 : DC code 1413 (.aload_n 0) 1 1414 := ⟨by decide +kernel, rfl⟩
theorem d_law_1414 : DC code 1414 (.iload_n 3) 1 1415 := ⟨by decide +kernel, rfl⟩
theorem d_law_1415 : DC code 1415 (.iconst 1) 1 1416 := ⟨by decide +kernel, rfl⟩
theorem d_law_1416 : DC code 1416 (.iadd) 1 1417 := ⟨by decide +kernel, rfl⟩
theorem d_law_1417 : DC code 1417 (.iaload) 1 1418 := ⟨by decide +kernel, rfl⟩
theorem d_law_1418 : DC code 1418 (.aload_n 0) 1 1419 := ⟨by decide +kernel, rfl⟩
theorem d_law_1419 : DC code 1419 (.iload_n 3) 1 1420 := ⟨by decide +kernel, rfl⟩
theorem d_law_1420 : DC code 1420 (.iconst 2) 1 1421 := ⟨by decide +kernel, rfl⟩
theorem d_law_1421 : DC code 1421 (.iadd) 1 1422 := ⟨by decide +kernel, rfl⟩
theorem d_law_1422 : DC code 1422 (.iaload) 1 1423 := ⟨by decide +kernel, rfl⟩
theorem d_law_1423 : DC code 1423 (.aload_n 0) 1 1424 := ⟨by decide +kernel, rfl⟩
theorem d_law_1424 : DC code 1424 (.iload_n 3) 1 1425 := ⟨by decide +kernel, rfl⟩
theorem d_law_1425 : DC code 1425 (.iconst 3) 1 1426 := ⟨by decide +kernel, rfl⟩
theorem d_law_1426 : DC code 1426 (.iadd) 1 1427 := ⟨by decide +kernel, rfl⟩
theorem d_law_1427 : DC code 1427 (.iaload) 1 1428 := ⟨by decide +kernel, rfl⟩
theorem d_law_1428 : DC code 1428 (.invokevirtual 177) 3 1431 := ⟨by decide +kernel, rfl⟩
theorem d_law_1431 : DB code 1431 (.if_icmp .eq 257) 257 1688 1434 := ⟨by decide +kernel, by decide, rfl⟩
theorem d_law_1434 : DC code 1434 (.iconst 0) 1 1435 := ⟨by decide +kernel, rfl⟩
theorem d_law_1435 : decode code 1435 = .ok (.ireturn, 1) := by decide +kernel
theorem d_law_1436 : DC code 1436 (.aload_n 1) 1 1437 := ⟨by decide +kernel, rfl⟩
theorem d_law_1437 : DC code 1437 (.aload_n 0) 1 1438 := ⟨by decide +kernel, rfl⟩
theorem d_law_1438 : DC code 1438 (.iload_n 3) 1 1439 := ⟨by decide +kernel, rfl⟩
theorem d_law_1439 : DC code 1439 (.iconst 1) 1 1440 := ⟨by decide +kernel, rfl⟩
theorem d_law_1440 : DC code 1440 (.iadd) 1 1441 := ⟨by decide +kernel, rfl⟩
theorem d_law_1441 : DC code 1441 (.iaload) 1 1442 := ⟨by decide +kernel, rfl⟩
theorem d_law_1442 : DC code 1442 (.invokevirtual 178) 3 1445 := ⟨by decide +kernel, rfl⟩
theorem d_law_1445 : DC code 1445 (.aload_n 2) 1 1446 := ⟨by decide +kernel, rfl⟩
theorem d_law_1446 : DC code 1446 (.aload_n 0) 1 1447 := ⟨by decide +kernel, rfl⟩
theorem d_law_1447 : DC code 1447 (.iload_n 3) 1 1448 := ⟨by decide +kernel, rfl⟩
theorem d_law_1448 : DC code 1448 (.iconst 1) 1 1449 := ⟨by decide +kernel, rfl⟩
theorem d_law_1449 : DC code 1449 (.iadd) 1 1450 := ⟨by decide +kernel, rfl⟩
theorem d_law_1450 : DC code 1450 (.iaload) 1 1451 := ⟨by decide +kernel, rfl⟩
theorem d_law_1451 : DC code 1451 (.invokevirtual 181) 3 1454 := ⟨by decide +kernel, rfl⟩
theorem d_law_1454 : DB code 1454 (.if_icmp .eq 234) 234 1688 1457 := ⟨by decide +kernel, by decide, rfl⟩
theorem d_law_1457 : DC code 1457 (.iconst 0) 1 1458 := ⟨by decide +kernel, rfl⟩
theorem d_law_1458 : decode code 1458 = .ok (.ireturn, 1) := by decide +kernel
theorem d_law_1459 : DC code 1459 (.aload_n 1) 1 1460 := ⟨by decide +kernel, rfl⟩
theorem d_law_1460 : DC code 1460 (.aload_n 0) 1 1461 := ⟨by decide +kernel, rfl⟩
theorem d_law_1461 : DC code 1461 (.iload_n 3) 1 1462 := ⟨by decide +kernel, rfl⟩
theorem d_law_1462 : DC code 1462 (.iconst 1) 1 1463 := ⟨by decide +kernel, rfl⟩
theorem d_law_1463 : DC code 1463 (.iadd) 1 1464 := ⟨by decide +kernel, rfl⟩
theorem d_law_1464 : DC code 1464 (.iaload) 1 1465 := ⟨by decide +kernel, rfl⟩
theorem d_law_1465 : DC code 1465 (.aload_n 0) 1 1466 := ⟨by decide +kernel, rfl⟩
theorem d_law_1466 : DC code 1466 (.iload_n 3) 1 1467 := ⟨by decide +kernel, rfl⟩
theorem d_law_1467 : DC code 1467 (.iconst 2) 1 1468 := ⟨by decide +kernel, rfl⟩
theorem d_law_1468 : DC code 1468 (.iadd) 1 1469 := ⟨by decide +kernel, rfl⟩
theorem d_law_1469 : DC code 1469 (.iaload) 1 1470 := ⟨by decide +kernel, rfl⟩
theorem d_law_1470 : DC code 1470 (.aload_n 0) 1 1471 := ⟨by decide +kernel, rfl⟩
theorem d_law_1471 : DC code 1471 (.iload_n 3) 1 1472 := ⟨by decide +kernel, rfl⟩
theorem d_law_1472 : DC code 1472 (.iconst 3) 1 1473 := ⟨by decide +kernel, rfl⟩
theorem d_law_1473 : DC code 1473 (.iadd) 1 1474 := ⟨by decide +kernel, rfl⟩
theorem d_law_1474 : DC code 1474 (.iaload) 1 1475 := ⟨by decide +kernel, rfl⟩
theorem d_law_1475 : DC code 1475 (.aload_n 0) 1 1476 := ⟨by decide +kernel, rfl⟩
theorem d_law_1476 : DC code 1476 (.iload_n 3) 1 1477 := ⟨by decide +kernel, rfl⟩
theorem d_law_1477 : DC code 1477 (.iconst 4) 1 1478 := ⟨by decide +kernel, rfl⟩
theorem d_law_1478 : DC code 1478 (.iadd) 1 1479 := ⟨by decide +kernel, rfl⟩
theorem d_law_1479 : DC code 1479 (.iaload) 1 1480 := ⟨by decide +kernel, rfl⟩
theorem d_law_1480 : DC code 1480 (.invokevirtual 182) 3 1483 := ⟨by decide +kernel, rfl⟩
theorem d_law_1483 : DC code 1483 (.aload_n 2) 1 1484 := ⟨by decide +kernel, rfl⟩
theorem d_law_1484 : DC code 1484 (.aload_n 0) 1 1485 := ⟨by decide +kernel, rfl⟩
theorem d_law_1485 : DC code 1485 (.iload_n 3) 1 1486 := ⟨by decide +kernel, rfl⟩
theorem d_law_1486 : DC code 1486 (.iconst 1) 1 1487 := ⟨by decide +kernel, rfl⟩
theorem d_law_1487 : DC code 1487 (.iadd) 1 1488 := ⟨by decide +kernel, rfl⟩
theorem d_law_1488 : DC code 1488 (.iaload) 1 1489 := ⟨by decide +kernel, rfl⟩
theorem d_law_1489 : DC code 1489 (.aload_n 0) 1 1490 := ⟨by decide +kernel, rfl⟩
theorem d_law_1490 : DC code 1490 (.iload_n 3) 1 1491 := ⟨by decide +kernel, rfl⟩
theorem d_law_1491 : DC code 1491 (.iconst 2) 1 1492 := ⟨by decide +kernel, rfl⟩
theorem d_law_1492 : DC code 1492 (.iadd) 1 1493 := ⟨by decide +kernel, rfl⟩
theorem d_law_1493 : DC code 1493 (.iaload) 1 1494 := ⟨by decide +kernel, rfl⟩
theorem d_law_1494 : DC code 1494 (.aload_n 0) 1 1495 := ⟨by decide +kernel, rfl⟩
theorem d_law_1495 : DC code 1495 (.iload_n 3) 1 1496 := ⟨by decide +kernel, rfl⟩
theorem d_law_1496 : DC code 1496 (.iconst 3) 1 1497 := ⟨by decide +kernel, rfl⟩
theorem d_law_1497 : DC code 1497 (.iadd) 1 1498 := ⟨by decide +kernel, rfl⟩
theorem d_law_1498 : DC code 1498 (.iaload) 1 1499 := ⟨by decide +kernel, rfl⟩
theorem d_law_1499 : DC code 1499 (.aload_n 0) 1 1500 := ⟨by decide +kernel, rfl⟩
theorem d_law_1500 : DC code 1500 (.iload_n 3) 1 1501 := ⟨by decide +kernel, rfl⟩
theorem d_law_1501 : DC code 1501 (.iconst 4) 1 1502 := ⟨by decide +kernel, rfl⟩
theorem d_law_1502 : DC code 1502 (.iadd) 1 1503 := ⟨by decide +kernel, rfl⟩
theorem d_law_1503 : DC code 1503 (.iaload) 1 1504 := ⟨by decide +kernel, rfl⟩
theorem d_law_1504 : DC code 1504 (.invokevirtual 186) 3 1507 := ⟨by decide +kernel, rfl⟩
theorem d_law_1507 : DB code 1507 (.if_icmp .eq 181) 181 1688 1510 := ⟨by decide +kernel, by decide, rfl⟩
theorem d_law_1510 : DC code 1510 (.iconst 0) 1 1511 := ⟨by decide +kernel, rfl⟩
theorem d_law_1511 : decode code 1511 = .ok (.ireturn, 1) := by decide +kernel
theorem d_law_1512 : DC code 1512 (.aload_n 1) 1 1513 := ⟨by decide +kernel, rfl⟩
theorem d_law_1513 : DC code 1513 (.aload_n 0) 1 1514 := ⟨by decide +kernel, rfl⟩
theorem d_law_1514 : DC code 1514 (.iload_n 3) 1 1515 := ⟨by decide +kernel, rfl⟩
theorem d_law_1515 : DC code 1515 (.iconst 1) 1 1516 := ⟨by decide +kernel, rfl⟩
theorem d_law_1516 : DC code 1516 (.iadd) 1 1517 := ⟨by decide +kernel, rfl⟩
theorem d_law_1517 : DC code 1517 (.iaload) 1 1518 := ⟨by decide +kernel, rfl⟩
theorem d_law_1518 : DC code 1518 (.aload_n 0) 1 1519 := ⟨by decide +kernel, rfl⟩
theorem d_law_1519 : DC code 1519 (.iload_n 3) 1 1520 := ⟨by decide +kernel, rfl⟩
theorem d_law_1520 : DC code 1520 (.iconst 2) 1 1521 := ⟨by decide +kernel, rfl⟩
theorem d_law_1521 : DC code 1521 (.iadd) 1 1522 := ⟨by decide +kernel, rfl⟩
theorem d_law_1522 : DC code 1522 (.iaload) 1 1523 := ⟨by decide +kernel, rfl⟩
theorem d_law_1523 : DC code 1523 (.aload_n 0) 1 1524 := ⟨by decide +kernel, rfl⟩
theorem d_law_1524 : DC code 1524 (.iload_n 3) 1 1525 := ⟨by decide +kernel, rfl⟩
theorem d_law_1525 : DC code 1525 (.iconst 3) 1 1526 := ⟨by decide +kernel, rfl⟩
theorem d_law_1526 : DC code 1526 (.iadd) 1 1527 := ⟨by decide +kernel, rfl⟩
theorem d_law_1527 : DC code 1527 (.iaload) 1 1528 := ⟨by decide +kernel, rfl⟩
theorem d_law_1528 : DC code 1528 (.invokevirtual 187) 3 1531 := ⟨by decide +kernel, rfl⟩
theorem d_law_1531 : DC code 1531 (.aload_n 2) 1 1532 := ⟨by decide +kernel, rfl⟩
theorem d_law_1532 : DC code 1532 (.aload_n 0) 1 1533 := ⟨by decide +kernel, rfl⟩
theorem d_law_1533 : DC code 1533 (.iload_n 3) 1 1534 := ⟨by decide +kernel, rfl⟩
theorem d_law_1534 : DC code 1534 (.iconst 1) 1 1535 := ⟨by decide +kernel, rfl⟩
theorem d_law_1535 : DC code 1535 (.iadd) 1 1536 := ⟨by decide +kernel, rfl⟩
theorem d_law_1536 : DC code 1536 (.iaload) 1 1537 := ⟨by decide +kernel, rfl⟩
theorem d_law_1537 : DC code 1537 (.aload_n 0) 1 1538 := ⟨by decide +kernel, rfl⟩
theorem d_law_1538 : DC code 1538 (.iload_n 3) 1 1539 := ⟨by decide +kernel, rfl⟩
theorem d_law_1539 : DC code 1539 (.iconst 2) 1 1540 := ⟨by decide +kernel, rfl⟩
theorem d_law_1540 : DC code 1540 (.iadd) 1 1541 := ⟨by decide +kernel, rfl⟩
theorem d_law_1541 : DC code 1541 (.iaload) 1 1542 := ⟨by decide +kernel, rfl⟩
theorem d_law_1542 : DC code 1542 (.aload_n 0) 1 1543 := ⟨by decide +kernel, rfl⟩
theorem d_law_1543 : DC code 1543 (.iload_n 3) 1 1544 := ⟨by decide +kernel, rfl⟩
theorem d_law_1544 : DC code 1544 (.iconst 3) 1 1545 := ⟨by decide +kernel, rfl⟩
theorem d_law_1545 : DC code 1545 (.iadd) 1 1546 := ⟨by decide +kernel, rfl⟩
theorem d_law_1546 : DC code 1546 (.iaload) 1 1547 := ⟨by decide +kernel, rfl⟩
theorem d_law_1547 : DC code 1547 (.invokevirtual 190) 3 1550 := ⟨by decide +kernel, rfl⟩
theorem d_law_1550 : DB code 1550 (.if_icmp .eq 138) 138 1688 1553 := ⟨by decide +kernel, by decide, rfl⟩
theorem d_law_1553 : DC code 1553 (.iconst 0) 1 1554 := ⟨by decide +kernel, rfl⟩
theorem d_law_1554 : decode code 1554 = .ok (.ireturn, 1) := by decide +kernel
theorem d_law_1555 : DC code 1555 (.aload_n 1) 1 1556 := ⟨by decide +kernel, rfl⟩
theorem d_law_1556 : DC code 1556 (.aload_n 0) 1 1557 := ⟨by decide +kernel, rfl⟩
theorem d_law_1557 : DC code 1557 (.iload_n 3) 1 1558 := ⟨by decide +kernel, rfl⟩
theorem d_law_1558 : DC code 1558 (.iconst 1) 1 1559 := ⟨by decide +kernel, rfl⟩
theorem d_law_1559 : DC code 1559 (.iadd) 1 1560 := ⟨by decide +kernel, rfl⟩
theorem d_law_1560 : DC code 1560 (.iaload) 1 1561 := ⟨by decide +kernel, rfl⟩
theorem d_law_1561 : DC code 1561 (.aload_n 0) 1 1562 := ⟨by decide +kernel, rfl⟩
theorem d_law_1562 : DC code 1562 (.iload_n 3) 1 1563 := ⟨by decide +kernel, rfl⟩
theorem d_law_1563 : DC code 1563 (.iconst 2) 1 1564 := ⟨by decide +kernel, rfl⟩
theorem d_law_1564 : DC code 1564 (.iadd) 1 1565 := ⟨by decide +kernel, rfl⟩
theorem d_law_1565 : DC code 1565 (.iaload) 1 1566 := ⟨by decide +kernel, rfl⟩
theorem d_law_1566 : DC code 1566 (.aload_n 0) 1 1567 := ⟨by decide +kernel, rfl⟩
theorem d_law_1567 : DC code 1567 (.iload_n 3) 1 1568 := ⟨by decide +kernel, rfl⟩
theorem d_law_1568 : DC code 1568 (.iconst 3) 1 1569 := ⟨by decide +kernel, rfl⟩
theorem d_law_1569 : DC code 1569 (.iadd) 1 1570 := ⟨by decide +kernel, rfl⟩
theorem d_law_1570 : DC code 1570 (.iaload) 1 1571 := ⟨by decide +kernel, rfl⟩
theorem d_law_1571 : DC code 1571 (.aload_n 0) 1 1572 := ⟨by decide +kernel, rfl⟩
theorem d_law_1572 : DC code 1572 (.iload_n 3) 1 1573 := ⟨by decide +kernel, rfl⟩
theorem d_law_1573 : DC code 1573 (.iconst 4) 1 1574 := ⟨by decide +kernel, rfl⟩
theorem d_law_1574 : DC code 1574 (.iadd) 1 1575 := ⟨by decide +kernel, rfl⟩
theorem d_law_1575 : DC code 1575 (.iaload) 1 1576 := ⟨by decide +kernel, rfl⟩
theorem d_law_1576 : DC code 1576 (.aload_n 0) 1 1577 := ⟨by decide +kernel, rfl⟩
theorem d_law_1577 : DC code 1577 (.iload_n 3) 1 1578 := ⟨by decide +kernel, rfl⟩
theorem d_law_1578 : DC code 1578 (.iconst 5) 1 1579 := ⟨by decide +kernel, rfl⟩
theorem d_law_1579 : DC code 1579 (.iadd) 1 1580 := ⟨by decide +kernel, rfl⟩
theorem d_law_1580 : DC code 1580 (.iaload) 1 1581 := ⟨by decide +kernel, rfl⟩
theorem d_law_1581 : DC code 1581 (.invokevirtual 191) 3 1584 := ⟨by decide +kernel, rfl⟩
theorem d_law_1584 : DC code 1584 (.aload_n 2) 1 1585 := ⟨by decide +kernel, rfl⟩
theorem d_law_1585 : DC code 1585 (.aload_n 0) 1 1586 := ⟨by decide +kernel, rfl⟩
theorem d_law_1586 : DC code 1586 (.iload_n 3) 1 1587 := ⟨by decide +kernel, rfl⟩
theorem d_law_1587 : DC code 1587 (.iconst 1) 1 1588 := ⟨by decide +kernel, rfl⟩
theorem d_law_1588 : DC code 1588 (.iadd) 1 1589 := ⟨by decide +kernel, rfl⟩
theorem d_law_1589 : DC code 1589 (.iaload) 1 1590 := ⟨by decide +kernel, rfl⟩
theorem d_law_1590 : DC code 1590 (.aload_n 0) 1 1591 := ⟨by decide +kernel, rfl⟩
theorem d_law_1591 : DC code 1591 (.iload_n 3) 1 1592 := ⟨by decide +kernel, rfl⟩
theorem d_law_1592 : DC code 1592 (.iconst 2) 1 1593 := ⟨by decide +kernel, rfl⟩
theorem d_law_1593 : DC code 1593 (.iadd) 1 1594 := ⟨by decide +kernel, rfl⟩
theorem d_law_1594 : DC code 1594 (.iaload) 1 1595 := ⟨by decide +kernel, rfl⟩
theorem d_law_1595 : DC code 1595 (.aload_n 0) 1 1596 := ⟨by decide +kernel, rfl⟩
theorem d_law_1596 : DC code 1596 (.iload_n 3) 1 1597 := ⟨by decide +kernel, rfl⟩
theorem d_law_1597 : DC code 1597 (.iconst 3) 1 1598 := ⟨by decide +kernel, rfl⟩
theorem d_law_1598 : DC code 1598 (.iadd) 1 1599 := ⟨by decide +kernel, rfl⟩
theorem d_law_1599 : DC code 1599 (.iaload) 1 1600 := ⟨by decide +kernel, rfl⟩
theorem d_law_1600 : DC code 1600 (.aload_n 0) 1 1601 := ⟨by decide +kernel, rfl⟩
theorem d_law_1601 : DC code 1601 (.iload_n 3) 1 1602 := ⟨by decide +kernel, rfl⟩
theorem d_law_1602 : DC code 1602 (.iconst 4) 1 1603 := ⟨by decide +kernel, rfl⟩
theorem d_law_1603 : DC code 1603 (.iadd) 1 1604 := ⟨by decide +kernel, rfl⟩
theorem d_law_1604 : DC code 1604 (.iaload) 1 1605 := ⟨by decide +kernel, rfl⟩
theorem d_law_1605 : DC code 1605 (.aload_n 0) 1 1606 := ⟨by decide +kernel, rfl⟩
theorem d_law_1606 : DC code 1606 (.iload_n 3) 1 1607 := ⟨by decide +kernel, rfl⟩
theorem d_law_1607 : DC code 1607 (.iconst 5) 1 1608 := ⟨by decide +kernel, rfl⟩
theorem d_law_1608 : DC code 1608 (.iadd) 1 1609 := ⟨by decide +kernel, rfl⟩
theorem d_law_1609 : DC code 1609 (.iaload) 1 1610 := ⟨by decide +kernel, rfl⟩
theorem d_law_1610 : DC code 1610 (.invokevirtual 194) 3 1613 := ⟨by decide +kernel, rfl⟩
theorem d_law_1613 : DB code 1613 (.if_icmp .eq 75) 75 1688 1616 := ⟨by decide +kernel, by decide, rfl⟩
theorem d_law_1616 : DC code 1616 (.iconst 0) 1 1617 := ⟨by decide +kernel, rfl⟩
theorem d_law_1617 : decode code 1617 = .ok (.ireturn, 1) := by decide +kernel
theorem d_law_1618 : DC code 1618 (.aload_n 1) 1 1619 := ⟨by decide +kernel, rfl⟩
theorem d_law_1619 : DC code 1619 (.aload_n 0) 1 1620 := ⟨by decide +kernel, rfl⟩
theorem d_law_1620 : DC code 1620 (.iload_n 3) 1 1621 := ⟨by decide +kernel, rfl⟩
theorem d_law_1621 : DC code 1621 (.iconst 1) 1 1622 := ⟨by decide +kernel, rfl⟩
theorem d_law_1622 : DC code 1622 (.iadd) 1 1623 := ⟨by decide +kernel, rfl⟩
theorem d_law_1623 : DC code 1623 (.iaload) 1 1624 := ⟨by decide +kernel, rfl⟩
theorem d_law_1624 : DC code 1624 (.aload_n 0) 1 1625 := ⟨by decide +kernel, rfl⟩
theorem d_law_1625 : DC code 1625 (.iload_n 3) 1 1626 := ⟨by decide +kernel, rfl⟩
theorem d_law_1626 : DC code 1626 (.iconst 2) 1 1627 := ⟨by decide +kernel, rfl⟩
theorem d_law_1627 : DC code 1627 (.iadd) 1 1628 := ⟨by decide +kernel, rfl⟩
theorem d_law_1628 : DC code 1628 (.iaload) 1 1629 := ⟨by decide +kernel, rfl⟩
theorem d_law_1629 : DC code 1629 (.invokevirtual 195) 3 1632 := ⟨by decide +kernel, rfl⟩
theorem d_law_1632 : DC code 1632 (.aload_n 2) 1 1633 := ⟨by decide +kernel, rfl⟩
theorem d_law_1633 : DC code 1633 (.aload_n 0) 1 1634 := ⟨by decide +kernel, rfl⟩
theorem d_law_1634 : DC code 1634 (.iload_n 3) 1 1635 := ⟨by decide +kernel, rfl⟩
theorem d_law_1635 : DC code 1635 (.iconst 1) 1 1636 := ⟨by decide +kernel, rfl⟩
theorem d_law_1636 : DC code 1636 (.iadd) 1 1637 := ⟨by decide +kernel, rfl⟩
theorem d_law_1637 : DC code 1637 (.iaload) 1 1638 := ⟨by decide +kernel, rfl⟩
theorem d_law_1638 : DC code 1638 (.aload_n 0) 1 1639 := ⟨by decide +kernel, rfl⟩
theorem d_law_1639 : DC code 1639 (.iload_n 3) 1 1640 := ⟨by decide +kernel, rfl⟩
theorem d_law_1640 : DC code 1640 (.iconst 2) 1 1641 := ⟨by decide +kernel, rfl⟩
theorem d_law_1641 : DC code 1641 (.iadd) 1 1642 := ⟨by decide +kernel, rfl⟩
theorem d_law_1642 : DC code 1642 (.iaload) 1 1643 := ⟨by decide +kernel, rfl⟩
theorem d_law_1643 : DC code 1643 (.invokevirtual 198) 3 1646 := ⟨by decide +kernel, rfl⟩
theorem d_law_1646 : DB code 1646 (.if_icmp .eq 42) 42 1688 1649 := ⟨by decide +kernel, by decide, rfl⟩
theorem d_law_1649 : DC code 1649 (.iconst 0) 1 1650 := ⟨by decide +kernel, rfl⟩
theorem d_law_1650 : decode code 1650 = .ok (.ireturn, 1) := by decide +kernel
theorem d_law_1651 : DC code 1651 (.aload_n 1) 1 1652 := ⟨by decide +kernel, rfl⟩
theorem d_law_1652 : DC code 1652 (.aload_n 0) 1 1653 := ⟨by decide +kernel, rfl⟩
theorem d_law_1653 : DC code 1653 (.iload_n 3) 1 1654 := ⟨by decide +kernel, rfl⟩
theorem d_law_1654 : DC code 1654 (.iconst 1) 1 1655 := ⟨by decide +kernel, rfl⟩
theorem d_law_1655 : DC code 1655 (.iadd) 1 1656 := ⟨by decide +kernel, rfl⟩
theorem d_law_1656 : DC code 1656 (.iaload) 1 1657 := ⟨by decide +kernel, rfl⟩
theorem d_law_1657 : DC code 1657 (.invokevirtual 199) 3 1660 := ⟨by decide +kernel, rfl⟩
theorem d_law_1660 : DC code 1660 (.aload_n 2) 1 1661 := ⟨by decide +kernel, rfl⟩
theorem d_law_1661 : DC code 1661 (.aload_n 0) 1 1662 := ⟨by decide +kernel, rfl⟩
theorem d_law_1662 : DC code 1662 (.iload_n 3) 1 1663 := ⟨by decide +kernel, rfl⟩
theorem d_law_1663 : DC code 1663 (.iconst 1) 1 1664 := ⟨by decide +kernel, rfl⟩
theorem d_law_1664 : DC code 1664 (.iadd) 1 1665 := ⟨by decide +kernel, rfl⟩
theorem d_law_1665 : DC code 1665 (.iaload) 1 1666 := ⟨by decide +kernel, rfl⟩
theorem d_law_1666 : DC code 1666 (.invokevirtual 202) 3 1669 := ⟨by decide +kernel, rfl⟩
theorem d_law_1669 : DB code 1669 (.if_icmp .eq 19) 19 1688 1672 := ⟨by decide +kernel, by decide, rfl⟩
theorem d_law_1672 : DC code 1672 (.iconst 0) 1 1673 := ⟨by decide +kernel, rfl⟩
theorem d_law_1673 : decode code 1673 = .ok (.ireturn, 1) := by decide +kernel
theorem d_law_1674 : DC code 1674 (.aload_n 1) 1 1675 := ⟨by decide +kernel, rfl⟩
theorem d_law_1675 : DC code 1675 (.invokevirtual 203) 3 1678 := ⟨by decide +kernel, rfl⟩
theorem d_law_1678 : DC code 1678 (.aload_n 2) 1 1679 := ⟨by decide +kernel, rfl⟩
theorem d_law_1679 : DC code 1679 (.invokevirtual 207) 3 1682 := ⟨by decide +kernel, rfl⟩
theorem d_law_1682 : DC code 1682 (.lcmp) 1 1683 := ⟨by decide +kernel, rfl⟩
theorem d_law_1683 : DB code 1683 (.ifCond .eq 5) 5 1688 1686 := ⟨by decide +kernel, by decide, rfl⟩
theorem d_law_1686 : DC code 1686 (.iconst 0) 1 1687 := ⟨by decide +kernel, rfl⟩
theorem d_law_1687 : decode code 1687 = .ok (.ireturn, 1) := by decide +kernel
theorem d_law_1688 : DC code 1688 (.iinc 3 6) 3 1691 := ⟨by decide +kernel, rfl⟩
theorem d_law_1691 : DB code 1691 (.goto (-1673)) (-1673) 18 1694 := ⟨by decide +kernel, by decide, rfl⟩
theorem d_law_1694 : DC code 1694 (.iconst 1) 1 1695 := ⟨by decide +kernel, rfl⟩
theorem d_law_1695 : decode code 1695 = .ok (.ireturn, 1) := by decide +kernel
theorem isx_set {Y : Lay} {ad : Nat → Nat} {n : Nat} (h : IsX Y) (hn : yn Y ≤ n) : IsX (yset Y ad n) := ⟨h.1, h.2.1, h.2.2.1, h.2.2.2.1, Nat.le_trans h.2.2.2.2 hn⟩
theorem n_top {n : Nat} {μ : Mem} {x1 x2 x3 x4 x5 : Int32} {r : Int32 × Nat × Mem} (h : f_X_top n μ x1 x2 x3 x4 x5 = some r) : n ≤ r.2.1 := by
  have hb : some ((-2 : Int32), n, μ) = some r → n ≤ r.2.1 := fun h => by cases h; exact Nat.le_refl _
  have h65 : f_X_top_b65 n μ x1 x2 x3 x4 x5 = some r → n ≤ r.2.1 := by
    intro h
    unfold f_X_top_b65 nm f_To_init nm at h
    repeat' split at h
    · simp only [Option.bind] at h; cases h; exact Nat.le_succ _
    · cases h
    · cases h; exact Nat.le_refl _
  have h54 : f_X_top_b54 n μ x1 x2 x3 x4 x5 = some r → n ≤ r.2.1 := by
    intro h
    unfold f_X_top_b54 at h
    refine bd h (fun v _ h => ?_)
    split at h
    · exact h65 h
    · exact hb h
  have h35 : ∀ s, f_X_top_b35 n μ x1 x2 x3 x4 x5 s = some r → n ≤ r.2.1 := by
    intro s h
    unfold f_X_top_b35 at h
    repeat' split at h
    all_goals first | exact hb h | exact h54 h
  unfold f_X_top at h
  refine bd h (fun v1 _ h => ?_)
  split at h
  · exact h35 _ h
  · refine bd h (fun v2 _ h => ?_)
    split at h
    · exact h35 _ h
    · refine bd h (fun v3 _ h => ?_)
      split at h
      · exact h35 _ h
      · exact h35 _ h
def LI (s : State) (x0 m0 : Nat) (cnt n : Nat) (Y1 Y2 : Lay) (μ1 μ2 : Mem) (H : Heap) (locs : List Loc) : Prop := IsX Y1 ∧ yn Y1 = n ∧ IsM Y2 ∧ Wd s Y1 (AL s) μ1 H locs ∧ Wd s Y2 (AL s) μ2 H locs ∧ (∀ a b, a < yn Y1 → b < yn Y2 → yad Y1 a ≠ yad Y2 b) ∧ SOK Y1 (AL s) s ∧ SOK Y2 (AL s) s ∧ yad Y1 0 = x0 ∧ yad Y2 0 = m0 ∧ Inv cnt n μ1 μ2
abbrev LN (p : Program) (l : Launch) (e : Env) (s : State) (m : MethodId) (args : Array Value) (below : List Frame) (meth : Method) (c : Code) (x0 m0 cnt : Nat) (Q : State → Prop) (ls : Array Slot) : Prop := ∀ (n' : Nat) (Y1' Y2' : Lay) (μ1' μ2' : Mem) (H1 : Heap) (locs1 : List Loc), LI s x0 m0 (cnt + 1) n' Y1' Y2' μ1' μ2' H1 locs1 → WL p l e s m args below meth c H1 locs1 (105 + cnt + 1) (8020 + 6 * cnt + 6) Q (F0 m 1688 ls [])
theorem law_c0 {p : Program} {l : Launch} {e : Env} {s : State} {m : MethodId} {args : Array Value} {below : List Frame} {meth : Method} {c : Code} {H : Heap} {locs : List Loc} {ls : Array Slot} {Q : State → Prop} {Y1 Y2 : Lay} {μ1 μ2 : Mem} {b L x0 m0 cnt n : Nat} {xs : Nat → Int32} (S : CallFix p m c code 4 s args TT "TopYardLaw") (hX : va_X b L xs s s.heap) (hbl : b < s.heap.size) (hI : LI s x0 m0 cnt n Y1 Y2 μ1 μ2 H locs) (hc : cnt < 512) (hl : lv_has ls 4 [(3, .int (nI (6 * cnt))), (0, .ref b), (1, .ref x0), (2, .ref m0)]) (hij : 6 * cnt + 6 ≤ L) (hL : L ≤ 3072) (k : LN p l e s m args below meth c x0 m0 cnt Q ls) : WL p l e s m args below meth c H locs (105 + cnt) (8020 + 6 * cnt) Q (F0 m 236 ls []) := by
  obtain ⟨hY1, hn, hY2, hw1, hw2, hdis, hO1, hO2, rfl, rfl, hInv⟩ := hI
  obtain ⟨r, e1, e2, hInv⟩ := s_turn hInv hc (xs (6 * cnt + 1)) (xs (6 * cnt + 2))
  refine lv_aload_n S.1 S.2.1 d_law_236.1 rfl (lv_at hl 2 rfl) ?_
  refine l_arg S hX hbl hw1.2.2.2.1 hl 1 0 rfl rfl (j := 1) (by decide) (by omega) (by omega) d_law_237 d_law_238 d_law_239 d_law_240 d_law_241 ?_
  refine l_arg S hX hbl hw1.2.2.2.1 hl 1 0 rfl rfl (j := 2) (by decide) (by omega) (by omega) d_law_242 d_law_243 d_law_244 d_law_245 d_law_246 ?_
  refine l_call (a := 0) (As := [.int (xs (6 * cnt + 1)), .int (xs (6 * cnt + 2))]) (rest := []) S hO1 lk_L_13 (c_X_turn hY1 e1) rfl (kX hY1 rfl) (nX hY1 (by decide)) (by decide) rfl rfl (by decide) hl.1 (by omega) (by omega) rfl (Nat.le_of_ble_eq_true rfl) d_law_247 hw1 hw2 hdis (fun H1 locs1 hw1 hw2 => ?_)
  refine lv_aload_n S.1 S.2.1 d_law_250.1 rfl (lv_at hl 3 rfl) ?_
  refine l_arg S hX hbl hw1.2.2.2.1 hl 1 0 rfl rfl (j := 1) (by decide) (by omega) (by omega) d_law_251 d_law_252 d_law_253 d_law_254 d_law_255 ?_
  refine l_arg S hX hbl hw1.2.2.2.1 hl 1 0 rfl rfl (j := 2) (by decide) (by omega) (by omega) d_law_256 d_law_257 d_law_258 d_law_259 d_law_260 ?_
  refine l_call (a := 0) (As := [.int (xs (6 * cnt + 1)), .int (xs (6 * cnt + 2))]) (rest := [.int r]) S hO2 lk_L_17 (c_M_turn hY2 e2) rfl (kM hY2 rfl) (nM hY2 (by decide)) (by decide) rfl rfl (by decide) hl.1 (by omega) (by omega) rfl (Nat.le_of_ble_eq_true rfl) d_law_261 hw2 hw1 (fun a b ha hb h => hdis b a hb ha h.symm) (fun H1 locs1 hw2 hw1 => ?_)
  refine lv_icmp_eq (tgt := 1688) S.1 S.2.1 d_law_264.1 (by decide) (fun _ => ?_) (fun h => absurd rfl h)
  refine W.widen (k := 105 + cnt + 1) (n := 8020 + 6 * cnt + 6) (by omega) (by omega) ?_
  exact k n Y1 Y2 μ1 μ2 H1 locs1 ⟨hY1, hn, hY2, hw1, hw2, hdis, hO1, hO2, rfl, rfl, hInv⟩
theorem law_c1 {p : Program} {l : Launch} {e : Env} {s : State} {m : MethodId} {args : Array Value} {below : List Frame} {meth : Method} {c : Code} {H : Heap} {locs : List Loc} {ls : Array Slot} {Q : State → Prop} {Y1 Y2 : Lay} {μ1 μ2 : Mem} {b L x0 m0 cnt n : Nat} {xs : Nat → Int32} (S : CallFix p m c code 4 s args TT "TopYardLaw") (hX : va_X b L xs s s.heap) (hbl : b < s.heap.size) (hI : LI s x0 m0 cnt n Y1 Y2 μ1 μ2 H locs) (hc : cnt < 512) (hl : lv_has ls 4 [(3, .int (nI (6 * cnt))), (0, .ref b), (1, .ref x0), (2, .ref m0)]) (hij : 6 * cnt + 6 ≤ L) (hL : L ≤ 3072) (k : LN p l e s m args below meth c x0 m0 cnt Q ls) : WL p l e s m args below meth c H locs (105 + cnt) (8020 + 6 * cnt) Q (F0 m 269 ls []) := by
  obtain ⟨hY1, hn, hY2, hw1, hw2, hdis, hO1, hO2, rfl, rfl, hInv⟩ := hI
  obtain ⟨r, n1, ν1, ν2, e1, e2, hInv⟩ := s_top hInv hc (xs (6 * cnt + 1)) (xs (6 * cnt + 2)) (xs (6 * cnt + 3)) (xs (6 * cnt + 4)) (xs (6 * cnt + 5))
  rw [← hn] at e1
  refine lv_aload_n S.1 S.2.1 d_law_269.1 rfl (lv_at hl 2 rfl) ?_
  refine l_arg S hX hbl hw1.2.2.2.1 hl 1 0 rfl rfl (j := 1) (by decide) (by omega) (by omega) d_law_270 d_law_271 d_law_272 d_law_273 d_law_274 ?_
  refine l_arg S hX hbl hw1.2.2.2.1 hl 1 0 rfl rfl (j := 2) (by decide) (by omega) (by omega) d_law_275 d_law_276 d_law_277 d_law_278 d_law_279 ?_
  refine l_arg S hX hbl hw1.2.2.2.1 hl 1 0 rfl rfl (j := 3) (by decide) (by omega) (by omega) d_law_280 d_law_281 d_law_282 d_law_283 d_law_284 ?_
  refine l_arg S hX hbl hw1.2.2.2.1 hl 1 0 rfl rfl (j := 4) (by decide) (by omega) (by omega) d_law_285 d_law_286 d_law_287 d_law_288 d_law_289 ?_
  refine l_arg S hX hbl hw1.2.2.2.1 hl 1 0 rfl rfl (j := 5) (by decide) (by omega) (by omega) d_law_290 d_law_291 d_law_292 d_law_293 d_law_294 ?_
  refine l_top S hO1 hY1 wd_331 wd_332 wd_334 wd_321 wd_333 e1 hl.1 (by omega) (by omega) d_law_295 hw1 hw2 hdis (fun ad1 H1 locs1 hag hw1 hw2 hdis => ?_)
  refine lv_aload_n S.1 S.2.1 d_law_298.1 rfl (lv_at hl 3 rfl) ?_
  refine l_arg S hX hbl hw1.2.2.2.1 hl 1 0 rfl rfl (j := 1) (by decide) (by omega) (by omega) d_law_299 d_law_300 d_law_301 d_law_302 d_law_303 ?_
  refine l_arg S hX hbl hw1.2.2.2.1 hl 1 0 rfl rfl (j := 2) (by decide) (by omega) (by omega) d_law_304 d_law_305 d_law_306 d_law_307 d_law_308 ?_
  refine l_arg S hX hbl hw1.2.2.2.1 hl 1 0 rfl rfl (j := 3) (by decide) (by omega) (by omega) d_law_309 d_law_310 d_law_311 d_law_312 d_law_313 ?_
  refine l_arg S hX hbl hw1.2.2.2.1 hl 1 0 rfl rfl (j := 4) (by decide) (by omega) (by omega) d_law_314 d_law_315 d_law_316 d_law_317 d_law_318 ?_
  refine l_arg S hX hbl hw1.2.2.2.1 hl 1 0 rfl rfl (j := 5) (by decide) (by omega) (by omega) d_law_319 d_law_320 d_law_321 d_law_322 d_law_323 ?_
  refine l_call (a := 0) (As := [.int (xs (6 * cnt + 1)), .int (xs (6 * cnt + 2)), .int (xs (6 * cnt + 3)), .int (xs (6 * cnt + 4)), .int (xs (6 * cnt + 5))]) (rest := [.int r]) S hO2 lk_L_22 (c_M_top hY2 e2) rfl (kM hY2 rfl) (nM hY2 (by decide)) (by decide) rfl rfl (by decide) hl.1 (by omega) (by omega) rfl (Nat.le_of_ble_eq_true rfl) d_law_324 hw2 hw1 (fun a b ha hb h => hdis b a hb ha h.symm) (fun H1 locs1 hw2 hw1 => ?_)
  refine lv_icmp_eq (tgt := 1688) S.1 S.2.1 d_law_327.1 (by decide) (fun _ => ?_) (fun h => absurd rfl h)
  exact k n1 (yset Y1 ad1 n1) Y2 ν1 ν2 H1 locs1 ⟨isx_set hY1 (by have := n_top e1; omega), rfl, hY2, hw1, hw2, hdis, hO1, hO2, hag 0 (nX hY1 (by decide)), rfl, hInv⟩
theorem law_c2 {p : Program} {l : Launch} {e : Env} {s : State} {m : MethodId} {args : Array Value} {below : List Frame} {meth : Method} {c : Code} {H : Heap} {locs : List Loc} {ls : Array Slot} {Q : State → Prop} {Y1 Y2 : Lay} {μ1 μ2 : Mem} {b L x0 m0 cnt n : Nat} {xs : Nat → Int32} (S : CallFix p m c code 4 s args TT "TopYardLaw") (hX : va_X b L xs s s.heap) (hbl : b < s.heap.size) (hI : LI s x0 m0 cnt n Y1 Y2 μ1 μ2 H locs) (hc : cnt < 512) (hl : lv_has ls 4 [(3, .int (nI (6 * cnt))), (0, .ref b), (1, .ref x0), (2, .ref m0)]) (hij : 6 * cnt + 6 ≤ L) (hL : L ≤ 3072) (k : LN p l e s m args below meth c x0 m0 cnt Q ls) : WL p l e s m args below meth c H locs (105 + cnt) (8020 + 6 * cnt) Q (F0 m 332 ls []) := by
  obtain ⟨hY1, hn, hY2, hw1, hw2, hdis, hO1, hO2, rfl, rfl, hInv⟩ := hI
  obtain ⟨r, e1, e2, hInv⟩ := s_about hInv hc (xs (6 * cnt + 1)) (xs (6 * cnt + 2))
  refine lv_aload_n S.1 S.2.1 d_law_332.1 rfl (lv_at hl 2 rfl) ?_
  refine l_arg S hX hbl hw1.2.2.2.1 hl 1 0 rfl rfl (j := 1) (by decide) (by omega) (by omega) d_law_333 d_law_334 d_law_335 d_law_336 d_law_337 ?_
  refine l_arg S hX hbl hw1.2.2.2.1 hl 1 0 rfl rfl (j := 2) (by decide) (by omega) (by omega) d_law_338 d_law_339 d_law_340 d_law_341 d_law_342 ?_
  refine l_call (a := 0) (As := [.int (xs (6 * cnt + 1)), .int (xs (6 * cnt + 2))]) (rest := []) S hO1 lk_L_23 (c_X_about hY1 e1) rfl (kX hY1 rfl) (nX hY1 (by decide)) (by decide) rfl rfl (by decide) hl.1 (by omega) (by omega) rfl (Nat.le_of_ble_eq_true rfl) d_law_343 hw1 hw2 hdis (fun H1 locs1 hw1 hw2 => ?_)
  refine lv_aload_n S.1 S.2.1 d_law_346.1 rfl (lv_at hl 3 rfl) ?_
  refine l_arg S hX hbl hw1.2.2.2.1 hl 1 0 rfl rfl (j := 1) (by decide) (by omega) (by omega) d_law_347 d_law_348 d_law_349 d_law_350 d_law_351 ?_
  refine l_arg S hX hbl hw1.2.2.2.1 hl 1 0 rfl rfl (j := 2) (by decide) (by omega) (by omega) d_law_352 d_law_353 d_law_354 d_law_355 d_law_356 ?_
  refine l_call (a := 0) (As := [.int (xs (6 * cnt + 1)), .int (xs (6 * cnt + 2))]) (rest := [.int r]) S hO2 lk_L_26 (c_M_about hY2 e2) rfl (kM hY2 rfl) (nM hY2 (by decide)) (by decide) rfl rfl (by decide) hl.1 (by omega) (by omega) rfl (Nat.le_of_ble_eq_true rfl) d_law_357 hw2 hw1 (fun a b ha hb h => hdis b a hb ha h.symm) (fun H1 locs1 hw2 hw1 => ?_)
  refine lv_icmp_eq (tgt := 1688) S.1 S.2.1 d_law_360.1 (by decide) (fun _ => ?_) (fun h => absurd rfl h)
  refine W.widen (k := 105 + cnt + 1) (n := 8020 + 6 * cnt + 6) (by omega) (by omega) ?_
  exact k n Y1 Y2 μ1 μ2 H1 locs1 ⟨hY1, hn, hY2, hw1, hw2, hdis, hO1, hO2, rfl, rfl, hInv⟩
theorem law_c3 {p : Program} {l : Launch} {e : Env} {s : State} {m : MethodId} {args : Array Value} {below : List Frame} {meth : Method} {c : Code} {H : Heap} {locs : List Loc} {ls : Array Slot} {Q : State → Prop} {Y1 Y2 : Lay} {μ1 μ2 : Mem} {b L x0 m0 cnt n : Nat} {xs : Nat → Int32} (S : CallFix p m c code 4 s args TT "TopYardLaw") (hX : va_X b L xs s s.heap) (hbl : b < s.heap.size) (hI : LI s x0 m0 cnt n Y1 Y2 μ1 μ2 H locs) (hc : cnt < 512) (hl : lv_has ls 4 [(3, .int (nI (6 * cnt))), (0, .ref b), (1, .ref x0), (2, .ref m0)]) (hij : 6 * cnt + 6 ≤ L) (hL : L ≤ 3072) (k : LN p l e s m args below meth c x0 m0 cnt Q ls) : WL p l e s m args below meth c H locs (105 + cnt) (8020 + 6 * cnt) Q (F0 m 365 ls []) := by
  obtain ⟨hY1, hn, hY2, hw1, hw2, hdis, hO1, hO2, rfl, rfl, hInv⟩ := hI
  obtain ⟨r, ν1, ν2, e1, e2, hInv⟩ := s_wear hInv hc (xs (6 * cnt + 1)) (xs (6 * cnt + 2))
  refine lv_aload_n S.1 S.2.1 d_law_365.1 rfl (lv_at hl 2 rfl) ?_
  refine l_arg S hX hbl hw1.2.2.2.1 hl 1 0 rfl rfl (j := 1) (by decide) (by omega) (by omega) d_law_366 d_law_367 d_law_368 d_law_369 d_law_370 ?_
  refine l_arg S hX hbl hw1.2.2.2.1 hl 1 0 rfl rfl (j := 2) (by decide) (by omega) (by omega) d_law_371 d_law_372 d_law_373 d_law_374 d_law_375 ?_
  refine l_call (a := 0) (As := [.int (xs (6 * cnt + 1)), .int (xs (6 * cnt + 2))]) (rest := []) S hO1 lk_L_27 (c_X_wear hY1 e1) rfl (kX hY1 rfl) (nX hY1 (by decide)) (by decide) rfl rfl (by decide) hl.1 (by omega) (by omega) rfl (Nat.le_of_ble_eq_true rfl) d_law_376 hw1 hw2 hdis (fun H1 locs1 hw1 hw2 => ?_)
  refine lv_aload_n S.1 S.2.1 d_law_379.1 rfl (lv_at hl 3 rfl) ?_
  refine l_arg S hX hbl hw1.2.2.2.1 hl 1 0 rfl rfl (j := 1) (by decide) (by omega) (by omega) d_law_380 d_law_381 d_law_382 d_law_383 d_law_384 ?_
  refine l_arg S hX hbl hw1.2.2.2.1 hl 1 0 rfl rfl (j := 2) (by decide) (by omega) (by omega) d_law_385 d_law_386 d_law_387 d_law_388 d_law_389 ?_
  refine l_call (a := 0) (As := [.int (xs (6 * cnt + 1)), .int (xs (6 * cnt + 2))]) (rest := [.int r]) S hO2 lk_L_30 (c_M_wear hY2 e2) rfl (kM hY2 rfl) (nM hY2 (by decide)) (by decide) rfl rfl (by decide) hl.1 (by omega) (by omega) rfl (Nat.le_of_ble_eq_true rfl) d_law_390 hw2 hw1 (fun a b ha hb h => hdis b a hb ha h.symm) (fun H1 locs1 hw2 hw1 => ?_)
  refine lv_icmp_eq (tgt := 1688) S.1 S.2.1 d_law_393.1 (by decide) (fun _ => ?_) (fun h => absurd rfl h)
  refine W.widen (k := 105 + cnt + 1) (n := 8020 + 6 * cnt + 6) (by omega) (by omega) ?_
  exact k n Y1 Y2 ν1 ν2 H1 locs1 ⟨hY1, hn, hY2, hw1, hw2, hdis, hO1, hO2, rfl, rfl, hInv⟩
theorem law_c4 {p : Program} {l : Launch} {e : Env} {s : State} {m : MethodId} {args : Array Value} {below : List Frame} {meth : Method} {c : Code} {H : Heap} {locs : List Loc} {ls : Array Slot} {Q : State → Prop} {Y1 Y2 : Lay} {μ1 μ2 : Mem} {b L x0 m0 cnt n : Nat} {xs : Nat → Int32} (S : CallFix p m c code 4 s args TT "TopYardLaw") (hX : va_X b L xs s s.heap) (hbl : b < s.heap.size) (hI : LI s x0 m0 cnt n Y1 Y2 μ1 μ2 H locs) (hc : cnt < 512) (hl : lv_has ls 4 [(3, .int (nI (6 * cnt))), (0, .ref b), (1, .ref x0), (2, .ref m0)]) (hij : 6 * cnt + 6 ≤ L) (hL : L ≤ 3072) (k : LN p l e s m args below meth c x0 m0 cnt Q ls) : WL p l e s m args below meth c H locs (105 + cnt) (8020 + 6 * cnt) Q (F0 m 398 ls []) := by
  obtain ⟨hY1, hn, hY2, hw1, hw2, hdis, hO1, hO2, rfl, rfl, hInv⟩ := hI
  obtain ⟨r, ν1, ν2, e1, e2, hInv⟩ := s_give hInv hc (xs (6 * cnt + 1)) (xs (6 * cnt + 2))
  refine lv_aload_n S.1 S.2.1 d_law_398.1 rfl (lv_at hl 2 rfl) ?_
  refine l_arg S hX hbl hw1.2.2.2.1 hl 1 0 rfl rfl (j := 1) (by decide) (by omega) (by omega) d_law_399 d_law_400 d_law_401 d_law_402 d_law_403 ?_
  refine l_arg S hX hbl hw1.2.2.2.1 hl 1 0 rfl rfl (j := 2) (by decide) (by omega) (by omega) d_law_404 d_law_405 d_law_406 d_law_407 d_law_408 ?_
  refine l_call (a := 0) (As := [.int (xs (6 * cnt + 1)), .int (xs (6 * cnt + 2))]) (rest := []) S hO1 lk_L_31 (c_X_give hY1 e1) rfl (kX hY1 rfl) (nX hY1 (by decide)) (by decide) rfl rfl (by decide) hl.1 (by omega) (by omega) rfl (Nat.le_of_ble_eq_true rfl) d_law_409 hw1 hw2 hdis (fun H1 locs1 hw1 hw2 => ?_)
  refine lv_aload_n S.1 S.2.1 d_law_412.1 rfl (lv_at hl 3 rfl) ?_
  refine l_arg S hX hbl hw1.2.2.2.1 hl 1 0 rfl rfl (j := 1) (by decide) (by omega) (by omega) d_law_413 d_law_414 d_law_415 d_law_416 d_law_417 ?_
  refine l_arg S hX hbl hw1.2.2.2.1 hl 1 0 rfl rfl (j := 2) (by decide) (by omega) (by omega) d_law_418 d_law_419 d_law_420 d_law_421 d_law_422 ?_
  refine l_call (a := 0) (As := [.int (xs (6 * cnt + 1)), .int (xs (6 * cnt + 2))]) (rest := [.int r]) S hO2 lk_L_34 (c_M_give hY2 e2) rfl (kM hY2 rfl) (nM hY2 (by decide)) (by decide) rfl rfl (by decide) hl.1 (by omega) (by omega) rfl (Nat.le_of_ble_eq_true rfl) d_law_423 hw2 hw1 (fun a b ha hb h => hdis b a hb ha h.symm) (fun H1 locs1 hw2 hw1 => ?_)
  refine lv_icmp_eq (tgt := 1688) S.1 S.2.1 d_law_426.1 (by decide) (fun _ => ?_) (fun h => absurd rfl h)
  refine W.widen (k := 105 + cnt + 1) (n := 8020 + 6 * cnt + 6) (by omega) (by omega) ?_
  exact k n Y1 Y2 ν1 ν2 H1 locs1 ⟨hY1, hn, hY2, hw1, hw2, hdis, hO1, hO2, rfl, rfl, hInv⟩
theorem law_c5 {p : Program} {l : Launch} {e : Env} {s : State} {m : MethodId} {args : Array Value} {below : List Frame} {meth : Method} {c : Code} {H : Heap} {locs : List Loc} {ls : Array Slot} {Q : State → Prop} {Y1 Y2 : Lay} {μ1 μ2 : Mem} {b L x0 m0 cnt n : Nat} {xs : Nat → Int32} (S : CallFix p m c code 4 s args TT "TopYardLaw") (hX : va_X b L xs s s.heap) (hbl : b < s.heap.size) (hI : LI s x0 m0 cnt n Y1 Y2 μ1 μ2 H locs) (hc : cnt < 512) (hl : lv_has ls 4 [(3, .int (nI (6 * cnt))), (0, .ref b), (1, .ref x0), (2, .ref m0)]) (hij : 6 * cnt + 6 ≤ L) (hL : L ≤ 3072) (k : LN p l e s m args below meth c x0 m0 cnt Q ls) : WL p l e s m args below meth c H locs (105 + cnt) (8020 + 6 * cnt) Q (F0 m 431 ls []) := by
  obtain ⟨hY1, hn, hY2, hw1, hw2, hdis, hO1, hO2, rfl, rfl, hInv⟩ := hI
  obtain ⟨r, ν1, ν2, e1, e2, hInv⟩ := s_bowl hInv hc (xs (6 * cnt + 1)) (xs (6 * cnt + 2))
  refine lv_aload_n S.1 S.2.1 d_law_431.1 rfl (lv_at hl 2 rfl) ?_
  refine l_arg S hX hbl hw1.2.2.2.1 hl 1 0 rfl rfl (j := 1) (by decide) (by omega) (by omega) d_law_432 d_law_433 d_law_434 d_law_435 d_law_436 ?_
  refine l_arg S hX hbl hw1.2.2.2.1 hl 1 0 rfl rfl (j := 2) (by decide) (by omega) (by omega) d_law_437 d_law_438 d_law_439 d_law_440 d_law_441 ?_
  refine l_call (a := 0) (As := [.int (xs (6 * cnt + 1)), .int (xs (6 * cnt + 2))]) (rest := []) S hO1 lk_L_35 (c_X_bowl hY1 e1) rfl (kX hY1 rfl) (nX hY1 (by decide)) (by decide) rfl rfl (by decide) hl.1 (by omega) (by omega) rfl (Nat.le_of_ble_eq_true rfl) d_law_442 hw1 hw2 hdis (fun H1 locs1 hw1 hw2 => ?_)
  refine lv_aload_n S.1 S.2.1 d_law_445.1 rfl (lv_at hl 3 rfl) ?_
  refine l_arg S hX hbl hw1.2.2.2.1 hl 1 0 rfl rfl (j := 1) (by decide) (by omega) (by omega) d_law_446 d_law_447 d_law_448 d_law_449 d_law_450 ?_
  refine l_arg S hX hbl hw1.2.2.2.1 hl 1 0 rfl rfl (j := 2) (by decide) (by omega) (by omega) d_law_451 d_law_452 d_law_453 d_law_454 d_law_455 ?_
  refine l_call (a := 0) (As := [.int (xs (6 * cnt + 1)), .int (xs (6 * cnt + 2))]) (rest := [.int r]) S hO2 lk_L_38 (c_M_bowl hY2 e2) rfl (kM hY2 rfl) (nM hY2 (by decide)) (by decide) rfl rfl (by decide) hl.1 (by omega) (by omega) rfl (Nat.le_of_ble_eq_true rfl) d_law_456 hw2 hw1 (fun a b ha hb h => hdis b a hb ha h.symm) (fun H1 locs1 hw2 hw1 => ?_)
  refine lv_icmp_eq (tgt := 1688) S.1 S.2.1 d_law_459.1 (by decide) (fun _ => ?_) (fun h => absurd rfl h)
  refine W.widen (k := 105 + cnt + 1) (n := 8020 + 6 * cnt + 6) (by omega) (by omega) ?_
  exact k n Y1 Y2 ν1 ν2 H1 locs1 ⟨hY1, hn, hY2, hw1, hw2, hdis, hO1, hO2, rfl, rfl, hInv⟩
theorem law_c6 {p : Program} {l : Launch} {e : Env} {s : State} {m : MethodId} {args : Array Value} {below : List Frame} {meth : Method} {c : Code} {H : Heap} {locs : List Loc} {ls : Array Slot} {Q : State → Prop} {Y1 Y2 : Lay} {μ1 μ2 : Mem} {b L x0 m0 cnt n : Nat} {xs : Nat → Int32} (S : CallFix p m c code 4 s args TT "TopYardLaw") (hX : va_X b L xs s s.heap) (hbl : b < s.heap.size) (hI : LI s x0 m0 cnt n Y1 Y2 μ1 μ2 H locs) (hc : cnt < 512) (hl : lv_has ls 4 [(3, .int (nI (6 * cnt))), (0, .ref b), (1, .ref x0), (2, .ref m0)]) (hij : 6 * cnt + 6 ≤ L) (hL : L ≤ 3072) (k : LN p l e s m args below meth c x0 m0 cnt Q ls) : WL p l e s m args below meth c H locs (105 + cnt) (8020 + 6 * cnt) Q (F0 m 464 ls []) := by
  obtain ⟨hY1, hn, hY2, hw1, hw2, hdis, hO1, hO2, rfl, rfl, hInv⟩ := hI
  obtain ⟨r, ν1, ν2, e1, e2, hInv⟩ := s_dent hInv hc (xs (6 * cnt + 1)) (xs (6 * cnt + 2)) (xs (6 * cnt + 3))
  refine lv_aload_n S.1 S.2.1 d_law_464.1 rfl (lv_at hl 2 rfl) ?_
  refine l_arg S hX hbl hw1.2.2.2.1 hl 1 0 rfl rfl (j := 1) (by decide) (by omega) (by omega) d_law_465 d_law_466 d_law_467 d_law_468 d_law_469 ?_
  refine l_arg S hX hbl hw1.2.2.2.1 hl 1 0 rfl rfl (j := 2) (by decide) (by omega) (by omega) d_law_470 d_law_471 d_law_472 d_law_473 d_law_474 ?_
  refine l_arg S hX hbl hw1.2.2.2.1 hl 1 0 rfl rfl (j := 3) (by decide) (by omega) (by omega) d_law_475 d_law_476 d_law_477 d_law_478 d_law_479 ?_
  refine l_call (a := 0) (As := [.int (xs (6 * cnt + 1)), .int (xs (6 * cnt + 2)), .int (xs (6 * cnt + 3))]) (rest := []) S hO1 lk_L_39 (c_X_dent hY1 e1) rfl (kX hY1 rfl) (nX hY1 (by decide)) (by decide) rfl rfl (by decide) hl.1 (by omega) (by omega) rfl (Nat.le_of_ble_eq_true rfl) d_law_480 hw1 hw2 hdis (fun H1 locs1 hw1 hw2 => ?_)
  refine lv_aload_n S.1 S.2.1 d_law_483.1 rfl (lv_at hl 3 rfl) ?_
  refine l_arg S hX hbl hw1.2.2.2.1 hl 1 0 rfl rfl (j := 1) (by decide) (by omega) (by omega) d_law_484 d_law_485 d_law_486 d_law_487 d_law_488 ?_
  refine l_arg S hX hbl hw1.2.2.2.1 hl 1 0 rfl rfl (j := 2) (by decide) (by omega) (by omega) d_law_489 d_law_490 d_law_491 d_law_492 d_law_493 ?_
  refine l_arg S hX hbl hw1.2.2.2.1 hl 1 0 rfl rfl (j := 3) (by decide) (by omega) (by omega) d_law_494 d_law_495 d_law_496 d_law_497 d_law_498 ?_
  refine l_call (a := 0) (As := [.int (xs (6 * cnt + 1)), .int (xs (6 * cnt + 2)), .int (xs (6 * cnt + 3))]) (rest := [.int r]) S hO2 lk_L_43 (c_M_dent hY2 e2) rfl (kM hY2 rfl) (nM hY2 (by decide)) (by decide) rfl rfl (by decide) hl.1 (by omega) (by omega) rfl (Nat.le_of_ble_eq_true rfl) d_law_499 hw2 hw1 (fun a b ha hb h => hdis b a hb ha h.symm) (fun H1 locs1 hw2 hw1 => ?_)
  refine lv_icmp_eq (tgt := 1688) S.1 S.2.1 d_law_502.1 (by decide) (fun _ => ?_) (fun h => absurd rfl h)
  refine W.widen (k := 105 + cnt + 1) (n := 8020 + 6 * cnt + 6) (by omega) (by omega) ?_
  exact k n Y1 Y2 ν1 ν2 H1 locs1 ⟨hY1, hn, hY2, hw1, hw2, hdis, hO1, hO2, rfl, rfl, hInv⟩
theorem law_c7 {p : Program} {l : Launch} {e : Env} {s : State} {m : MethodId} {args : Array Value} {below : List Frame} {meth : Method} {c : Code} {H : Heap} {locs : List Loc} {ls : Array Slot} {Q : State → Prop} {Y1 Y2 : Lay} {μ1 μ2 : Mem} {b L x0 m0 cnt n : Nat} {xs : Nat → Int32} (S : CallFix p m c code 4 s args TT "TopYardLaw") (hX : va_X b L xs s s.heap) (hbl : b < s.heap.size) (hI : LI s x0 m0 cnt n Y1 Y2 μ1 μ2 H locs) (hc : cnt < 512) (hl : lv_has ls 4 [(3, .int (nI (6 * cnt))), (0, .ref b), (1, .ref x0), (2, .ref m0)]) (hij : 6 * cnt + 6 ≤ L) (hL : L ≤ 3072) (k : LN p l e s m args below meth c x0 m0 cnt Q ls) : WL p l e s m args below meth c H locs (105 + cnt) (8020 + 6 * cnt) Q (F0 m 507 ls []) := by
  obtain ⟨hY1, hn, hY2, hw1, hw2, hdis, hO1, hO2, rfl, rfl, hInv⟩ := hI
  obtain ⟨r, ν1, ν2, e1, e2, hInv⟩ := s_smooth hInv hc
  refine lv_aload_n S.1 S.2.1 d_law_507.1 rfl (lv_at hl 2 rfl) ?_
  refine l_call (a := 0) (As := []) (rest := []) S hO1 lk_L_44 (c_X_smooth hY1 e1) rfl (kX hY1 rfl) (nX hY1 (by decide)) (by decide) rfl rfl (by decide) hl.1 (by omega) (by omega) rfl (Nat.le_of_ble_eq_true rfl) d_law_508 hw1 hw2 hdis (fun H1 locs1 hw1 hw2 => ?_)
  refine lv_aload_n S.1 S.2.1 d_law_511.1 rfl (lv_at hl 3 rfl) ?_
  refine l_call (a := 0) (As := []) (rest := [.int r]) S hO2 lk_L_48 (c_M_smooth hY2 e2) rfl (kM hY2 rfl) (nM hY2 (by decide)) (by decide) rfl rfl (by decide) hl.1 (by omega) (by omega) rfl (Nat.le_of_ble_eq_true rfl) d_law_512 hw2 hw1 (fun a b ha hb h => hdis b a hb ha h.symm) (fun H1 locs1 hw2 hw1 => ?_)
  refine lv_icmp_eq (tgt := 1688) S.1 S.2.1 d_law_515.1 (by decide) (fun _ => ?_) (fun h => absurd rfl h)
  refine W.widen (k := 105 + cnt + 1) (n := 8020 + 6 * cnt + 6) (by omega) (by omega) ?_
  exact k n Y1 Y2 ν1 ν2 H1 locs1 ⟨hY1, hn, hY2, hw1, hw2, hdis, hO1, hO2, rfl, rfl, hInv⟩
theorem law_c8 {p : Program} {l : Launch} {e : Env} {s : State} {m : MethodId} {args : Array Value} {below : List Frame} {meth : Method} {c : Code} {H : Heap} {locs : List Loc} {ls : Array Slot} {Q : State → Prop} {Y1 Y2 : Lay} {μ1 μ2 : Mem} {b L x0 m0 cnt n : Nat} {xs : Nat → Int32} (S : CallFix p m c code 4 s args TT "TopYardLaw") (hX : va_X b L xs s s.heap) (hbl : b < s.heap.size) (hI : LI s x0 m0 cnt n Y1 Y2 μ1 μ2 H locs) (hc : cnt < 512) (hl : lv_has ls 4 [(3, .int (nI (6 * cnt))), (0, .ref b), (1, .ref x0), (2, .ref m0)]) (hij : 6 * cnt + 6 ≤ L) (hL : L ≤ 3072) (k : LN p l e s m args below meth c x0 m0 cnt Q ls) : WL p l e s m args below meth c H locs (105 + cnt) (8020 + 6 * cnt) Q (F0 m 520 ls []) := by
  obtain ⟨hY1, hn, hY2, hw1, hw2, hdis, hO1, hO2, rfl, rfl, hInv⟩ := hI
  obtain ⟨r, e1, e2, hInv⟩ := s_height hInv hc (xs (6 * cnt + 1)) (xs (6 * cnt + 2)) (xs (6 * cnt + 3))
  refine lv_aload_n S.1 S.2.1 d_law_520.1 rfl (lv_at hl 2 rfl) ?_
  refine l_arg S hX hbl hw1.2.2.2.1 hl 1 0 rfl rfl (j := 1) (by decide) (by omega) (by omega) d_law_521 d_law_522 d_law_523 d_law_524 d_law_525 ?_
  refine l_arg S hX hbl hw1.2.2.2.1 hl 1 0 rfl rfl (j := 2) (by decide) (by omega) (by omega) d_law_526 d_law_527 d_law_528 d_law_529 d_law_530 ?_
  refine l_arg S hX hbl hw1.2.2.2.1 hl 1 0 rfl rfl (j := 3) (by decide) (by omega) (by omega) d_law_531 d_law_532 d_law_533 d_law_534 d_law_535 ?_
  refine l_call (a := 0) (As := [.int (xs (6 * cnt + 1)), .int (xs (6 * cnt + 2)), .int (xs (6 * cnt + 3))]) (rest := []) S hO1 lk_L_49 (c_X_height hY1 e1) rfl (kX hY1 rfl) (nX hY1 (by decide)) (by decide) rfl rfl (by decide) hl.1 (by omega) (by omega) rfl (Nat.le_of_ble_eq_true rfl) d_law_536 hw1 hw2 hdis (fun H1 locs1 hw1 hw2 => ?_)
  refine lv_aload_n S.1 S.2.1 d_law_539.1 rfl (lv_at hl 3 rfl) ?_
  refine l_arg S hX hbl hw1.2.2.2.1 hl 1 0 rfl rfl (j := 1) (by decide) (by omega) (by omega) d_law_540 d_law_541 d_law_542 d_law_543 d_law_544 ?_
  refine l_arg S hX hbl hw1.2.2.2.1 hl 1 0 rfl rfl (j := 2) (by decide) (by omega) (by omega) d_law_545 d_law_546 d_law_547 d_law_548 d_law_549 ?_
  refine l_arg S hX hbl hw1.2.2.2.1 hl 1 0 rfl rfl (j := 3) (by decide) (by omega) (by omega) d_law_550 d_law_551 d_law_552 d_law_553 d_law_554 ?_
  refine l_call (a := 0) (As := [.int (xs (6 * cnt + 1)), .int (xs (6 * cnt + 2)), .int (xs (6 * cnt + 3))]) (rest := [.int r]) S hO2 lk_L_52 (c_M_height hY2 e2) rfl (kM hY2 rfl) (nM hY2 (by decide)) (by decide) rfl rfl (by decide) hl.1 (by omega) (by omega) rfl (Nat.le_of_ble_eq_true rfl) d_law_555 hw2 hw1 (fun a b ha hb h => hdis b a hb ha h.symm) (fun H1 locs1 hw2 hw1 => ?_)
  refine lv_icmp_eq (tgt := 1688) S.1 S.2.1 d_law_558.1 (by decide) (fun _ => ?_) (fun h => absurd rfl h)
  refine W.widen (k := 105 + cnt + 1) (n := 8020 + 6 * cnt + 6) (by omega) (by omega) ?_
  exact k n Y1 Y2 μ1 μ2 H1 locs1 ⟨hY1, hn, hY2, hw1, hw2, hdis, hO1, hO2, rfl, rfl, hInv⟩
theorem law_c9 {p : Program} {l : Launch} {e : Env} {s : State} {m : MethodId} {args : Array Value} {below : List Frame} {meth : Method} {c : Code} {H : Heap} {locs : List Loc} {ls : Array Slot} {Q : State → Prop} {Y1 Y2 : Lay} {μ1 μ2 : Mem} {b L x0 m0 cnt n : Nat} {xs : Nat → Int32} (S : CallFix p m c code 4 s args TT "TopYardLaw") (hX : va_X b L xs s s.heap) (hbl : b < s.heap.size) (hI : LI s x0 m0 cnt n Y1 Y2 μ1 μ2 H locs) (hc : cnt < 512) (hl : lv_has ls 4 [(3, .int (nI (6 * cnt))), (0, .ref b), (1, .ref x0), (2, .ref m0)]) (hij : 6 * cnt + 6 ≤ L) (hL : L ≤ 3072) (k : LN p l e s m args below meth c x0 m0 cnt Q ls) : WL p l e s m args below meth c H locs (105 + cnt) (8020 + 6 * cnt) Q (F0 m 563 ls []) := by
  obtain ⟨hY1, hn, hY2, hw1, hw2, hdis, hO1, hO2, rfl, rfl, hInv⟩ := hI
  obtain ⟨r, ν1, ν2, e1, e2, hInv⟩ := s_string hInv hc (xs (6 * cnt + 1)) (xs (6 * cnt + 2))
  refine lv_aload_n S.1 S.2.1 d_law_563.1 rfl (lv_at hl 2 rfl) ?_
  refine l_arg S hX hbl hw1.2.2.2.1 hl 1 0 rfl rfl (j := 1) (by decide) (by omega) (by omega) d_law_564 d_law_565 d_law_566 d_law_567 d_law_568 ?_
  refine l_arg S hX hbl hw1.2.2.2.1 hl 1 0 rfl rfl (j := 2) (by decide) (by omega) (by omega) d_law_569 d_law_570 d_law_571 d_law_572 d_law_573 ?_
  refine l_call (a := 0) (As := [.int (xs (6 * cnt + 1)), .int (xs (6 * cnt + 2))]) (rest := []) S hO1 lk_L_53 (c_X_string hY1 e1) rfl (kX hY1 rfl) (nX hY1 (by decide)) (by decide) rfl rfl (by decide) hl.1 (by omega) (by omega) rfl (Nat.le_of_ble_eq_true rfl) d_law_574 hw1 hw2 hdis (fun H1 locs1 hw1 hw2 => ?_)
  refine lv_aload_n S.1 S.2.1 d_law_577.1 rfl (lv_at hl 3 rfl) ?_
  refine l_arg S hX hbl hw1.2.2.2.1 hl 1 0 rfl rfl (j := 1) (by decide) (by omega) (by omega) d_law_578 d_law_579 d_law_580 d_law_581 d_law_582 ?_
  refine l_arg S hX hbl hw1.2.2.2.1 hl 1 0 rfl rfl (j := 2) (by decide) (by omega) (by omega) d_law_583 d_law_584 d_law_585 d_law_586 d_law_587 ?_
  refine l_call (a := 0) (As := [.int (xs (6 * cnt + 1)), .int (xs (6 * cnt + 2))]) (rest := [.int r]) S hO2 lk_L_56 (c_M_string hY2 e2) rfl (kM hY2 rfl) (nM hY2 (by decide)) (by decide) rfl rfl (by decide) hl.1 (by omega) (by omega) rfl (Nat.le_of_ble_eq_true rfl) d_law_588 hw2 hw1 (fun a b ha hb h => hdis b a hb ha h.symm) (fun H1 locs1 hw2 hw1 => ?_)
  refine lv_icmp_eq (tgt := 1688) S.1 S.2.1 d_law_591.1 (by decide) (fun _ => ?_) (fun h => absurd rfl h)
  refine W.widen (k := 105 + cnt + 1) (n := 8020 + 6 * cnt + 6) (by omega) (by omega) ?_
  exact k n Y1 Y2 ν1 ν2 H1 locs1 ⟨hY1, hn, hY2, hw1, hw2, hdis, hO1, hO2, rfl, rfl, hInv⟩
theorem law_c10 {p : Program} {l : Launch} {e : Env} {s : State} {m : MethodId} {args : Array Value} {below : List Frame} {meth : Method} {c : Code} {H : Heap} {locs : List Loc} {ls : Array Slot} {Q : State → Prop} {Y1 Y2 : Lay} {μ1 μ2 : Mem} {b L x0 m0 cnt n : Nat} {xs : Nat → Int32} (S : CallFix p m c code 4 s args TT "TopYardLaw") (hX : va_X b L xs s s.heap) (hbl : b < s.heap.size) (hI : LI s x0 m0 cnt n Y1 Y2 μ1 μ2 H locs) (hc : cnt < 512) (hl : lv_has ls 4 [(3, .int (nI (6 * cnt))), (0, .ref b), (1, .ref x0), (2, .ref m0)]) (hij : 6 * cnt + 6 ≤ L) (hL : L ≤ 3072) (k : LN p l e s m args below meth c x0 m0 cnt Q ls) : WL p l e s m args below meth c H locs (105 + cnt) (8020 + 6 * cnt) Q (F0 m 596 ls []) := by
  obtain ⟨hY1, hn, hY2, hw1, hw2, hdis, hO1, hO2, rfl, rfl, hInv⟩ := hI
  obtain ⟨r, ν1, ν2, e1, e2, hInv⟩ := s_enter hInv hc (xs (6 * cnt + 1)) (xs (6 * cnt + 2)) (xs (6 * cnt + 3)) (xs (6 * cnt + 4)) (xs (6 * cnt + 5))
  refine lv_aload_n S.1 S.2.1 d_law_596.1 rfl (lv_at hl 2 rfl) ?_
  refine l_arg S hX hbl hw1.2.2.2.1 hl 1 0 rfl rfl (j := 1) (by decide) (by omega) (by omega) d_law_597 d_law_598 d_law_599 d_law_600 d_law_601 ?_
  refine l_arg S hX hbl hw1.2.2.2.1 hl 1 0 rfl rfl (j := 2) (by decide) (by omega) (by omega) d_law_602 d_law_603 d_law_604 d_law_605 d_law_606 ?_
  refine l_arg S hX hbl hw1.2.2.2.1 hl 1 0 rfl rfl (j := 3) (by decide) (by omega) (by omega) d_law_607 d_law_608 d_law_609 d_law_610 d_law_611 ?_
  refine l_arg S hX hbl hw1.2.2.2.1 hl 1 0 rfl rfl (j := 4) (by decide) (by omega) (by omega) d_law_612 d_law_613 d_law_614 d_law_615 d_law_616 ?_
  refine l_arg S hX hbl hw1.2.2.2.1 hl 1 0 rfl rfl (j := 5) (by decide) (by omega) (by omega) d_law_617 d_law_618 d_law_619 d_law_620 d_law_621 ?_
  refine l_call (a := 0) (As := [.int (xs (6 * cnt + 1)), .int (xs (6 * cnt + 2)), .int (xs (6 * cnt + 3)), .int (xs (6 * cnt + 4)), .int (xs (6 * cnt + 5))]) (rest := []) S hO1 lk_L_57 (c_X_enter hY1 e1) rfl (kX hY1 rfl) (nX hY1 (by decide)) (by decide) rfl rfl (by decide) hl.1 (by omega) (by omega) rfl (Nat.le_of_ble_eq_true rfl) d_law_622 hw1 hw2 hdis (fun H1 locs1 hw1 hw2 => ?_)
  refine lv_aload_n S.1 S.2.1 d_law_625.1 rfl (lv_at hl 3 rfl) ?_
  refine l_arg S hX hbl hw1.2.2.2.1 hl 1 0 rfl rfl (j := 1) (by decide) (by omega) (by omega) d_law_626 d_law_627 d_law_628 d_law_629 d_law_630 ?_
  refine l_arg S hX hbl hw1.2.2.2.1 hl 1 0 rfl rfl (j := 2) (by decide) (by omega) (by omega) d_law_631 d_law_632 d_law_633 d_law_634 d_law_635 ?_
  refine l_arg S hX hbl hw1.2.2.2.1 hl 1 0 rfl rfl (j := 3) (by decide) (by omega) (by omega) d_law_636 d_law_637 d_law_638 d_law_639 d_law_640 ?_
  refine l_arg S hX hbl hw1.2.2.2.1 hl 1 0 rfl rfl (j := 4) (by decide) (by omega) (by omega) d_law_641 d_law_642 d_law_643 d_law_644 d_law_645 ?_
  refine l_arg S hX hbl hw1.2.2.2.1 hl 1 0 rfl rfl (j := 5) (by decide) (by omega) (by omega) d_law_646 d_law_647 d_law_648 d_law_649 d_law_650 ?_
  refine l_call (a := 0) (As := [.int (xs (6 * cnt + 1)), .int (xs (6 * cnt + 2)), .int (xs (6 * cnt + 3)), .int (xs (6 * cnt + 4)), .int (xs (6 * cnt + 5))]) (rest := [.int r]) S hO2 lk_L_60 (c_M_enter hY2 e2) rfl (kM hY2 rfl) (nM hY2 (by decide)) (by decide) rfl rfl (by decide) hl.1 (by omega) (by omega) rfl (Nat.le_of_ble_eq_true rfl) d_law_651 hw2 hw1 (fun a b ha hb h => hdis b a hb ha h.symm) (fun H1 locs1 hw2 hw1 => ?_)
  refine lv_icmp_eq (tgt := 1688) S.1 S.2.1 d_law_654.1 (by decide) (fun _ => ?_) (fun h => absurd rfl h)
  refine W.widen (k := 105 + cnt + 1) (n := 8020 + 6 * cnt + 6) (by omega) (by omega) ?_
  exact k n Y1 Y2 ν1 ν2 H1 locs1 ⟨hY1, hn, hY2, hw1, hw2, hdis, hO1, hO2, rfl, rfl, hInv⟩
theorem law_c11 {p : Program} {l : Launch} {e : Env} {s : State} {m : MethodId} {args : Array Value} {below : List Frame} {meth : Method} {c : Code} {H : Heap} {locs : List Loc} {ls : Array Slot} {Q : State → Prop} {Y1 Y2 : Lay} {μ1 μ2 : Mem} {b L x0 m0 cnt n : Nat} {xs : Nat → Int32} (S : CallFix p m c code 4 s args TT "TopYardLaw") (hX : va_X b L xs s s.heap) (hbl : b < s.heap.size) (hI : LI s x0 m0 cnt n Y1 Y2 μ1 μ2 H locs) (hc : cnt < 512) (hl : lv_has ls 4 [(3, .int (nI (6 * cnt))), (0, .ref b), (1, .ref x0), (2, .ref m0)]) (hij : 6 * cnt + 6 ≤ L) (hL : L ≤ 3072) (k : LN p l e s m args below meth c x0 m0 cnt Q ls) : WL p l e s m args below meth c H locs (105 + cnt) (8020 + 6 * cnt) Q (F0 m 659 ls []) := by
  obtain ⟨hY1, hn, hY2, hw1, hw2, hdis, hO1, hO2, rfl, rfl, hInv⟩ := hI
  obtain ⟨r, ν1, ν2, e1, e2, hInv⟩ := s_clear hInv hc
  refine lv_aload_n S.1 S.2.1 d_law_659.1 rfl (lv_at hl 2 rfl) ?_
  refine l_call (a := 0) (As := []) (rest := []) S hO1 lk_L_61 (c_X_clear hY1 e1) rfl (kX hY1 rfl) (nX hY1 (by decide)) (by decide) rfl rfl (by decide) hl.1 (by omega) (by omega) rfl (Nat.le_of_ble_eq_true rfl) d_law_660 hw1 hw2 hdis (fun H1 locs1 hw1 hw2 => ?_)
  refine lv_aload_n S.1 S.2.1 d_law_663.1 rfl (lv_at hl 3 rfl) ?_
  refine l_call (a := 0) (As := []) (rest := [.int r]) S hO2 lk_L_64 (c_M_clear hY2 e2) rfl (kM hY2 rfl) (nM hY2 (by decide)) (by decide) rfl rfl (by decide) hl.1 (by omega) (by omega) rfl (Nat.le_of_ble_eq_true rfl) d_law_664 hw2 hw1 (fun a b ha hb h => hdis b a hb ha h.symm) (fun H1 locs1 hw2 hw1 => ?_)
  refine lv_icmp_eq (tgt := 1688) S.1 S.2.1 d_law_667.1 (by decide) (fun _ => ?_) (fun h => absurd rfl h)
  refine W.widen (k := 105 + cnt + 1) (n := 8020 + 6 * cnt + 6) (by omega) (by omega) ?_
  exact k n Y1 Y2 ν1 ν2 H1 locs1 ⟨hY1, hn, hY2, hw1, hw2, hdis, hO1, hO2, rfl, rfl, hInv⟩
theorem law_c12 {p : Program} {l : Launch} {e : Env} {s : State} {m : MethodId} {args : Array Value} {below : List Frame} {meth : Method} {c : Code} {H : Heap} {locs : List Loc} {ls : Array Slot} {Q : State → Prop} {Y1 Y2 : Lay} {μ1 μ2 : Mem} {b L x0 m0 cnt n : Nat} {xs : Nat → Int32} (S : CallFix p m c code 4 s args TT "TopYardLaw") (hX : va_X b L xs s s.heap) (hbl : b < s.heap.size) (hI : LI s x0 m0 cnt n Y1 Y2 μ1 μ2 H locs) (hc : cnt < 512) (hl : lv_has ls 4 [(3, .int (nI (6 * cnt))), (0, .ref b), (1, .ref x0), (2, .ref m0)]) (hij : 6 * cnt + 6 ≤ L) (hL : L ≤ 3072) (k : LN p l e s m args below meth c x0 m0 cnt Q ls) : WL p l e s m args below meth c H locs (105 + cnt) (8020 + 6 * cnt) Q (F0 m 672 ls []) := by
  obtain ⟨hY1, hn, hY2, hw1, hw2, hdis, hO1, hO2, rfl, rfl, hInv⟩ := hI
  obtain ⟨r, ν1, ν2, e1, e2, hInv⟩ := s_whip hInv hc (xs (6 * cnt + 1)) (xs (6 * cnt + 2)) (xs (6 * cnt + 3))
  refine lv_aload_n S.1 S.2.1 d_law_672.1 rfl (lv_at hl 2 rfl) ?_
  refine l_arg S hX hbl hw1.2.2.2.1 hl 1 0 rfl rfl (j := 1) (by decide) (by omega) (by omega) d_law_673 d_law_674 d_law_675 d_law_676 d_law_677 ?_
  refine l_arg S hX hbl hw1.2.2.2.1 hl 1 0 rfl rfl (j := 2) (by decide) (by omega) (by omega) d_law_678 d_law_679 d_law_680 d_law_681 d_law_682 ?_
  refine l_arg S hX hbl hw1.2.2.2.1 hl 1 0 rfl rfl (j := 3) (by decide) (by omega) (by omega) d_law_683 d_law_684 d_law_685 d_law_686 d_law_687 ?_
  refine l_call (a := 0) (As := [.int (xs (6 * cnt + 1)), .int (xs (6 * cnt + 2)), .int (xs (6 * cnt + 3))]) (rest := []) S hO1 lk_L_65 (c_X_whip hY1 e1) rfl (kX hY1 rfl) (nX hY1 (by decide)) (by decide) rfl rfl (by decide) hl.1 (by omega) (by omega) rfl (Nat.le_of_ble_eq_true rfl) d_law_688 hw1 hw2 hdis (fun H1 locs1 hw1 hw2 => ?_)
  refine lv_aload_n S.1 S.2.1 d_law_691.1 rfl (lv_at hl 3 rfl) ?_
  refine l_arg S hX hbl hw1.2.2.2.1 hl 1 0 rfl rfl (j := 1) (by decide) (by omega) (by omega) d_law_692 d_law_693 d_law_694 d_law_695 d_law_696 ?_
  refine l_arg S hX hbl hw1.2.2.2.1 hl 1 0 rfl rfl (j := 2) (by decide) (by omega) (by omega) d_law_697 d_law_698 d_law_699 d_law_700 d_law_701 ?_
  refine l_arg S hX hbl hw1.2.2.2.1 hl 1 0 rfl rfl (j := 3) (by decide) (by omega) (by omega) d_law_702 d_law_703 d_law_704 d_law_705 d_law_706 ?_
  refine l_call (a := 0) (As := [.int (xs (6 * cnt + 1)), .int (xs (6 * cnt + 2)), .int (xs (6 * cnt + 3))]) (rest := [.int r]) S hO2 lk_L_68 (c_M_whip hY2 e2) rfl (kM hY2 rfl) (nM hY2 (by decide)) (by decide) rfl rfl (by decide) hl.1 (by omega) (by omega) rfl (Nat.le_of_ble_eq_true rfl) d_law_707 hw2 hw1 (fun a b ha hb h => hdis b a hb ha h.symm) (fun H1 locs1 hw2 hw1 => ?_)
  refine lv_icmp_eq (tgt := 1688) S.1 S.2.1 d_law_710.1 (by decide) (fun _ => ?_) (fun h => absurd rfl h)
  refine W.widen (k := 105 + cnt + 1) (n := 8020 + 6 * cnt + 6) (by omega) (by omega) ?_
  exact k n Y1 Y2 ν1 ν2 H1 locs1 ⟨hY1, hn, hY2, hw1, hw2, hdis, hO1, hO2, rfl, rfl, hInv⟩
theorem law_c13 {p : Program} {l : Launch} {e : Env} {s : State} {m : MethodId} {args : Array Value} {below : List Frame} {meth : Method} {c : Code} {H : Heap} {locs : List Loc} {ls : Array Slot} {Q : State → Prop} {Y1 Y2 : Lay} {μ1 μ2 : Mem} {b L x0 m0 cnt n : Nat} {xs : Nat → Int32} (S : CallFix p m c code 4 s args TT "TopYardLaw") (hX : va_X b L xs s s.heap) (hbl : b < s.heap.size) (hI : LI s x0 m0 cnt n Y1 Y2 μ1 μ2 H locs) (hc : cnt < 512) (hl : lv_has ls 4 [(3, .int (nI (6 * cnt))), (0, .ref b), (1, .ref x0), (2, .ref m0)]) (hij : 6 * cnt + 6 ≤ L) (hL : L ≤ 3072) (k : LN p l e s m args below meth c x0 m0 cnt Q ls) : WL p l e s m args below meth c H locs (105 + cnt) (8020 + 6 * cnt) Q (F0 m 715 ls []) := by
  obtain ⟨hY1, hn, hY2, hw1, hw2, hdis, hO1, hO2, rfl, rfl, hInv⟩ := hI
  obtain ⟨r, ν1, ν2, e1, e2, hInv⟩ := s_run hInv hc
  refine lv_aload_n S.1 S.2.1 d_law_715.1 rfl (lv_at hl 2 rfl) ?_
  refine l_call (a := 0) (As := []) (rest := []) S hO1 lk_L_69 (c_X_run hY1 e1) rfl (kX hY1 rfl) (nX hY1 (by decide)) (by decide) rfl rfl (by decide) hl.1 (by omega) (by omega) rfl (Nat.le_of_ble_eq_true rfl) d_law_716 hw1 hw2 hdis (fun H1 locs1 hw1 hw2 => ?_)
  refine lv_aload_n S.1 S.2.1 d_law_719.1 rfl (lv_at hl 3 rfl) ?_
  refine l_call (a := 0) (As := []) (rest := [.int r]) S hO2 lk_L_72 (c_M_run hY2 e2) rfl (kM hY2 rfl) (nM hY2 (by decide)) (by decide) rfl rfl (by decide) hl.1 (by omega) (by omega) rfl (Nat.le_of_ble_eq_true rfl) d_law_720 hw2 hw1 (fun a b ha hb h => hdis b a hb ha h.symm) (fun H1 locs1 hw2 hw1 => ?_)
  refine lv_icmp_eq (tgt := 1688) S.1 S.2.1 d_law_723.1 (by decide) (fun _ => ?_) (fun h => absurd rfl h)
  refine W.widen (k := 105 + cnt + 1) (n := 8020 + 6 * cnt + 6) (by omega) (by omega) ?_
  exact k n Y1 Y2 ν1 ν2 H1 locs1 ⟨hY1, hn, hY2, hw1, hw2, hdis, hO1, hO2, rfl, rfl, hInv⟩
theorem law_c14 {p : Program} {l : Launch} {e : Env} {s : State} {m : MethodId} {args : Array Value} {below : List Frame} {meth : Method} {c : Code} {H : Heap} {locs : List Loc} {ls : Array Slot} {Q : State → Prop} {Y1 Y2 : Lay} {μ1 μ2 : Mem} {b L x0 m0 cnt n : Nat} {xs : Nat → Int32} (S : CallFix p m c code 4 s args TT "TopYardLaw") (hX : va_X b L xs s s.heap) (hbl : b < s.heap.size) (hI : LI s x0 m0 cnt n Y1 Y2 μ1 μ2 H locs) (hc : cnt < 512) (hl : lv_has ls 4 [(3, .int (nI (6 * cnt))), (0, .ref b), (1, .ref x0), (2, .ref m0)]) (hij : 6 * cnt + 6 ≤ L) (hL : L ≤ 3072) (k : LN p l e s m args below meth c x0 m0 cnt Q ls) : WL p l e s m args below meth c H locs (105 + cnt) (8020 + 6 * cnt) Q (F0 m 728 ls []) := by
  obtain ⟨hY1, hn, hY2, hw1, hw2, hdis, hO1, hO2, rfl, rfl, hInv⟩ := hI
  obtain ⟨r, ν1, ν2, e1, e2, hInv⟩ := s_winner hInv hc
  refine lv_aload_n S.1 S.2.1 d_law_728.1 rfl (lv_at hl 2 rfl) ?_
  refine l_call (a := 0) (As := []) (rest := []) S hO1 lk_L_73 (c_X_winner hY1 e1) rfl (kX hY1 rfl) (nX hY1 (by decide)) (by decide) rfl rfl (by decide) hl.1 (by omega) (by omega) rfl (Nat.le_of_ble_eq_true rfl) d_law_729 hw1 hw2 hdis (fun H1 locs1 hw1 hw2 => ?_)
  refine lv_aload_n S.1 S.2.1 d_law_732.1 rfl (lv_at hl 3 rfl) ?_
  refine l_call (a := 0) (As := []) (rest := [.int r]) S hO2 lk_L_76 (c_M_winner hY2 e2) rfl (kM hY2 rfl) (nM hY2 (by decide)) (by decide) rfl rfl (by decide) hl.1 (by omega) (by omega) rfl (Nat.le_of_ble_eq_true rfl) d_law_733 hw2 hw1 (fun a b ha hb h => hdis b a hb ha h.symm) (fun H1 locs1 hw2 hw1 => ?_)
  refine lv_icmp_eq (tgt := 1688) S.1 S.2.1 d_law_736.1 (by decide) (fun _ => ?_) (fun h => absurd rfl h)
  refine W.widen (k := 105 + cnt + 1) (n := 8020 + 6 * cnt + 6) (by omega) (by omega) ?_
  exact k n Y1 Y2 ν1 ν2 H1 locs1 ⟨hY1, hn, hY2, hw1, hw2, hdis, hO1, hO2, rfl, rfl, hInv⟩
theorem law_c15 {p : Program} {l : Launch} {e : Env} {s : State} {m : MethodId} {args : Array Value} {below : List Frame} {meth : Method} {c : Code} {H : Heap} {locs : List Loc} {ls : Array Slot} {Q : State → Prop} {Y1 Y2 : Lay} {μ1 μ2 : Mem} {b L x0 m0 cnt n : Nat} {xs : Nat → Int32} (S : CallFix p m c code 4 s args TT "TopYardLaw") (hX : va_X b L xs s s.heap) (hbl : b < s.heap.size) (hI : LI s x0 m0 cnt n Y1 Y2 μ1 μ2 H locs) (hc : cnt < 512) (hl : lv_has ls 4 [(3, .int (nI (6 * cnt))), (0, .ref b), (1, .ref x0), (2, .ref m0)]) (hij : 6 * cnt + 6 ≤ L) (hL : L ≤ 3072) (k : LN p l e s m args below meth c x0 m0 cnt Q ls) : WL p l e s m args below meth c H locs (105 + cnt) (8020 + 6 * cnt) Q (F0 m 741 ls []) := by
  obtain ⟨hY1, hn, hY2, hw1, hw2, hdis, hO1, hO2, rfl, rfl, hInv⟩ := hI
  obtain ⟨r, ν1, ν2, e1, e2, hInv⟩ := s_knocks hInv hc (xs (6 * cnt + 1))
  refine lv_aload_n S.1 S.2.1 d_law_741.1 rfl (lv_at hl 2 rfl) ?_
  refine l_arg S hX hbl hw1.2.2.2.1 hl 1 0 rfl rfl (j := 1) (by decide) (by omega) (by omega) d_law_742 d_law_743 d_law_744 d_law_745 d_law_746 ?_
  refine l_call (a := 0) (As := [.int (xs (6 * cnt + 1))]) (rest := []) S hO1 lk_L_77 (c_X_knocks hY1 e1) rfl (kX hY1 rfl) (nX hY1 (by decide)) (by decide) rfl rfl (by decide) hl.1 (by omega) (by omega) rfl (Nat.le_of_ble_eq_true rfl) d_law_747 hw1 hw2 hdis (fun H1 locs1 hw1 hw2 => ?_)
  refine lv_aload_n S.1 S.2.1 d_law_750.1 rfl (lv_at hl 3 rfl) ?_
  refine l_arg S hX hbl hw1.2.2.2.1 hl 1 0 rfl rfl (j := 1) (by decide) (by omega) (by omega) d_law_751 d_law_752 d_law_753 d_law_754 d_law_755 ?_
  refine l_call (a := 0) (As := [.int (xs (6 * cnt + 1))]) (rest := [.int r]) S hO2 lk_L_81 (c_M_knocks hY2 e2) rfl (kM hY2 rfl) (nM hY2 (by decide)) (by decide) rfl rfl (by decide) hl.1 (by omega) (by omega) rfl (Nat.le_of_ble_eq_true rfl) d_law_756 hw2 hw1 (fun a b ha hb h => hdis b a hb ha h.symm) (fun H1 locs1 hw2 hw1 => ?_)
  refine lv_icmp_eq (tgt := 1688) S.1 S.2.1 d_law_759.1 (by decide) (fun _ => ?_) (fun h => absurd rfl h)
  refine W.widen (k := 105 + cnt + 1) (n := 8020 + 6 * cnt + 6) (by omega) (by omega) ?_
  exact k n Y1 Y2 ν1 ν2 H1 locs1 ⟨hY1, hn, hY2, hw1, hw2, hdis, hO1, hO2, rfl, rfl, hInv⟩
theorem law_c16 {p : Program} {l : Launch} {e : Env} {s : State} {m : MethodId} {args : Array Value} {below : List Frame} {meth : Method} {c : Code} {H : Heap} {locs : List Loc} {ls : Array Slot} {Q : State → Prop} {Y1 Y2 : Lay} {μ1 μ2 : Mem} {b L x0 m0 cnt n : Nat} {xs : Nat → Int32} (S : CallFix p m c code 4 s args TT "TopYardLaw") (hX : va_X b L xs s s.heap) (hbl : b < s.heap.size) (hI : LI s x0 m0 cnt n Y1 Y2 μ1 μ2 H locs) (hc : cnt < 512) (hl : lv_has ls 4 [(3, .int (nI (6 * cnt))), (0, .ref b), (1, .ref x0), (2, .ref m0)]) (hij : 6 * cnt + 6 ≤ L) (hL : L ≤ 3072) (k : LN p l e s m args below meth c x0 m0 cnt Q ls) : WL p l e s m args below meth c H locs (105 + cnt) (8020 + 6 * cnt) Q (F0 m 764 ls []) := by
  obtain ⟨hY1, hn, hY2, hw1, hw2, hdis, hO1, hO2, rfl, rfl, hInv⟩ := hI
  obtain ⟨r, ν1, ν2, e1, e2, hInv⟩ := s_state hInv hc (xs (6 * cnt + 1)) (xs (6 * cnt + 2)) (xs (6 * cnt + 3))
  refine lv_aload_n S.1 S.2.1 d_law_764.1 rfl (lv_at hl 2 rfl) ?_
  refine l_arg S hX hbl hw1.2.2.2.1 hl 1 0 rfl rfl (j := 1) (by decide) (by omega) (by omega) d_law_765 d_law_766 d_law_767 d_law_768 d_law_769 ?_
  refine l_arg S hX hbl hw1.2.2.2.1 hl 1 0 rfl rfl (j := 2) (by decide) (by omega) (by omega) d_law_770 d_law_771 d_law_772 d_law_773 d_law_774 ?_
  refine l_arg S hX hbl hw1.2.2.2.1 hl 1 0 rfl rfl (j := 3) (by decide) (by omega) (by omega) d_law_775 d_law_776 d_law_777 d_law_778 d_law_779 ?_
  refine l_call (a := 0) (As := [.int (xs (6 * cnt + 1)), .int (xs (6 * cnt + 2)), .int (xs (6 * cnt + 3))]) (rest := []) S hO1 lk_L_82 (c_X_state hY1 e1) rfl (kX hY1 rfl) (nX hY1 (by decide)) (by decide) rfl rfl (by decide) hl.1 (by omega) (by omega) rfl (Nat.le_of_ble_eq_true rfl) d_law_780 hw1 hw2 hdis (fun H1 locs1 hw1 hw2 => ?_)
  refine lv_aload_n S.1 S.2.1 d_law_783.1 rfl (lv_at hl 3 rfl) ?_
  refine l_arg S hX hbl hw1.2.2.2.1 hl 1 0 rfl rfl (j := 1) (by decide) (by omega) (by omega) d_law_784 d_law_785 d_law_786 d_law_787 d_law_788 ?_
  refine l_arg S hX hbl hw1.2.2.2.1 hl 1 0 rfl rfl (j := 2) (by decide) (by omega) (by omega) d_law_789 d_law_790 d_law_791 d_law_792 d_law_793 ?_
  refine l_arg S hX hbl hw1.2.2.2.1 hl 1 0 rfl rfl (j := 3) (by decide) (by omega) (by omega) d_law_794 d_law_795 d_law_796 d_law_797 d_law_798 ?_
  refine l_call (a := 0) (As := [.int (xs (6 * cnt + 1)), .int (xs (6 * cnt + 2)), .int (xs (6 * cnt + 3))]) (rest := [.int r]) S hO2 lk_L_85 (c_M_state hY2 e2) rfl (kM hY2 rfl) (nM hY2 (by decide)) (by decide) rfl rfl (by decide) hl.1 (by omega) (by omega) rfl (Nat.le_of_ble_eq_true rfl) d_law_799 hw2 hw1 (fun a b ha hb h => hdis b a hb ha h.symm) (fun H1 locs1 hw2 hw1 => ?_)
  refine lv_icmp_eq (tgt := 1688) S.1 S.2.1 d_law_802.1 (by decide) (fun _ => ?_) (fun h => absurd rfl h)
  refine W.widen (k := 105 + cnt + 1) (n := 8020 + 6 * cnt + 6) (by omega) (by omega) ?_
  exact k n Y1 Y2 ν1 ν2 H1 locs1 ⟨hY1, hn, hY2, hw1, hw2, hdis, hO1, hO2, rfl, rfl, hInv⟩
theorem law_c17 {p : Program} {l : Launch} {e : Env} {s : State} {m : MethodId} {args : Array Value} {below : List Frame} {meth : Method} {c : Code} {H : Heap} {locs : List Loc} {ls : Array Slot} {Q : State → Prop} {Y1 Y2 : Lay} {μ1 μ2 : Mem} {b L x0 m0 cnt n : Nat} {xs : Nat → Int32} (S : CallFix p m c code 4 s args TT "TopYardLaw") (hX : va_X b L xs s s.heap) (hbl : b < s.heap.size) (hI : LI s x0 m0 cnt n Y1 Y2 μ1 μ2 H locs) (hc : cnt < 512) (hl : lv_has ls 4 [(3, .int (nI (6 * cnt))), (0, .ref b), (1, .ref x0), (2, .ref m0)]) (hij : 6 * cnt + 6 ≤ L) (hL : L ≤ 3072) (k : LN p l e s m args below meth c x0 m0 cnt Q ls) : WL p l e s m args below meth c H locs (105 + cnt) (8020 + 6 * cnt) Q (F0 m 807 ls []) := by
  obtain ⟨hY1, hn, hY2, hw1, hw2, hdis, hO1, hO2, rfl, rfl, hInv⟩ := hI
  obtain ⟨r, ν1, ν2, e1, e2, hInv⟩ := s_choose hInv hc
  refine lv_aload_n S.1 S.2.1 d_law_807.1 rfl (lv_at hl 2 rfl) ?_
  refine l_call (a := 0) (As := []) (rest := []) S hO1 lk_L_86 (c_X_choose hY1 e1) rfl (kX hY1 rfl) (nX hY1 (by decide)) (by decide) rfl rfl (by decide) hl.1 (by omega) (by omega) rfl (Nat.le_of_ble_eq_true rfl) d_law_808 hw1 hw2 hdis (fun H1 locs1 hw1 hw2 => ?_)
  refine lv_aload_n S.1 S.2.1 d_law_811.1 rfl (lv_at hl 3 rfl) ?_
  refine l_call (a := 0) (As := []) (rest := [.int r]) S hO2 lk_L_89 (c_M_choose hY2 e2) rfl (kM hY2 rfl) (nM hY2 (by decide)) (by decide) rfl rfl (by decide) hl.1 (by omega) (by omega) rfl (Nat.le_of_ble_eq_true rfl) d_law_812 hw2 hw1 (fun a b ha hb h => hdis b a hb ha h.symm) (fun H1 locs1 hw2 hw1 => ?_)
  refine lv_icmp_eq (tgt := 1688) S.1 S.2.1 d_law_815.1 (by decide) (fun _ => ?_) (fun h => absurd rfl h)
  refine W.widen (k := 105 + cnt + 1) (n := 8020 + 6 * cnt + 6) (by omega) (by omega) ?_
  exact k n Y1 Y2 ν1 ν2 H1 locs1 ⟨hY1, hn, hY2, hw1, hw2, hdis, hO1, hO2, rfl, rfl, hInv⟩
theorem law_c18 {p : Program} {l : Launch} {e : Env} {s : State} {m : MethodId} {args : Array Value} {below : List Frame} {meth : Method} {c : Code} {H : Heap} {locs : List Loc} {ls : Array Slot} {Q : State → Prop} {Y1 Y2 : Lay} {μ1 μ2 : Mem} {b L x0 m0 cnt n : Nat} {xs : Nat → Int32} (S : CallFix p m c code 4 s args TT "TopYardLaw") (hX : va_X b L xs s s.heap) (hbl : b < s.heap.size) (hI : LI s x0 m0 cnt n Y1 Y2 μ1 μ2 H locs) (hc : cnt < 512) (hl : lv_has ls 4 [(3, .int (nI (6 * cnt))), (0, .ref b), (1, .ref x0), (2, .ref m0)]) (hij : 6 * cnt + 6 ≤ L) (hL : L ≤ 3072) (k : LN p l e s m args below meth c x0 m0 cnt Q ls) : WL p l e s m args below meth c H locs (105 + cnt) (8020 + 6 * cnt) Q (F0 m 820 ls []) := by
  obtain ⟨hY1, hn, hY2, hw1, hw2, hdis, hO1, hO2, rfl, rfl, hInv⟩ := hI
  obtain ⟨r, ν1, ν2, e1, e2, hInv⟩ := s_among hInv hc (xs (6 * cnt + 1)) (xs (6 * cnt + 2))
  refine lv_aload_n S.1 S.2.1 d_law_820.1 rfl (lv_at hl 2 rfl) ?_
  refine l_arg S hX hbl hw1.2.2.2.1 hl 1 0 rfl rfl (j := 1) (by decide) (by omega) (by omega) d_law_821 d_law_822 d_law_823 d_law_824 d_law_825 ?_
  refine l_arg S hX hbl hw1.2.2.2.1 hl 1 0 rfl rfl (j := 2) (by decide) (by omega) (by omega) d_law_826 d_law_827 d_law_828 d_law_829 d_law_830 ?_
  refine l_call (a := 0) (As := [.int (xs (6 * cnt + 1)), .int (xs (6 * cnt + 2))]) (rest := []) S hO1 lk_L_90 (c_X_among hY1 e1) rfl (kX hY1 rfl) (nX hY1 (by decide)) (by decide) rfl rfl (by decide) hl.1 (by omega) (by omega) rfl (Nat.le_of_ble_eq_true rfl) d_law_831 hw1 hw2 hdis (fun H1 locs1 hw1 hw2 => ?_)
  refine lv_aload_n S.1 S.2.1 d_law_834.1 rfl (lv_at hl 3 rfl) ?_
  refine l_arg S hX hbl hw1.2.2.2.1 hl 1 0 rfl rfl (j := 1) (by decide) (by omega) (by omega) d_law_835 d_law_836 d_law_837 d_law_838 d_law_839 ?_
  refine l_arg S hX hbl hw1.2.2.2.1 hl 1 0 rfl rfl (j := 2) (by decide) (by omega) (by omega) d_law_840 d_law_841 d_law_842 d_law_843 d_law_844 ?_
  refine l_call (a := 0) (As := [.int (xs (6 * cnt + 1)), .int (xs (6 * cnt + 2))]) (rest := [.int r]) S hO2 lk_L_93 (c_M_among hY2 e2) rfl (kM hY2 rfl) (nM hY2 (by decide)) (by decide) rfl rfl (by decide) hl.1 (by omega) (by omega) rfl (Nat.le_of_ble_eq_true rfl) d_law_845 hw2 hw1 (fun a b ha hb h => hdis b a hb ha h.symm) (fun H1 locs1 hw2 hw1 => ?_)
  refine lv_icmp_eq (tgt := 1688) S.1 S.2.1 d_law_848.1 (by decide) (fun _ => ?_) (fun h => absurd rfl h)
  refine W.widen (k := 105 + cnt + 1) (n := 8020 + 6 * cnt + 6) (by omega) (by omega) ?_
  exact k n Y1 Y2 ν1 ν2 H1 locs1 ⟨hY1, hn, hY2, hw1, hw2, hdis, hO1, hO2, rfl, rfl, hInv⟩
theorem law_c19 {p : Program} {l : Launch} {e : Env} {s : State} {m : MethodId} {args : Array Value} {below : List Frame} {meth : Method} {c : Code} {H : Heap} {locs : List Loc} {ls : Array Slot} {Q : State → Prop} {Y1 Y2 : Lay} {μ1 μ2 : Mem} {b L x0 m0 cnt n : Nat} {xs : Nat → Int32} (S : CallFix p m c code 4 s args TT "TopYardLaw") (hX : va_X b L xs s s.heap) (hbl : b < s.heap.size) (hI : LI s x0 m0 cnt n Y1 Y2 μ1 μ2 H locs) (hc : cnt < 512) (hl : lv_has ls 4 [(3, .int (nI (6 * cnt))), (0, .ref b), (1, .ref x0), (2, .ref m0)]) (hij : 6 * cnt + 6 ≤ L) (hL : L ≤ 3072) (k : LN p l e s m args below meth c x0 m0 cnt Q ls) : WL p l e s m args below meth c H locs (105 + cnt) (8020 + 6 * cnt) Q (F0 m 853 ls []) := by
  obtain ⟨hY1, hn, hY2, hw1, hw2, hdis, hO1, hO2, rfl, rfl, hInv⟩ := hI
  obtain ⟨r, ν1, ν2, e1, e2, hInv⟩ := s_pay hInv hc (xs (6 * cnt + 1)) (xs (6 * cnt + 2)) (xs (6 * cnt + 3))
  refine lv_aload_n S.1 S.2.1 d_law_853.1 rfl (lv_at hl 2 rfl) ?_
  refine l_arg S hX hbl hw1.2.2.2.1 hl 1 0 rfl rfl (j := 1) (by decide) (by omega) (by omega) d_law_854 d_law_855 d_law_856 d_law_857 d_law_858 ?_
  refine l_arg S hX hbl hw1.2.2.2.1 hl 1 0 rfl rfl (j := 2) (by decide) (by omega) (by omega) d_law_859 d_law_860 d_law_861 d_law_862 d_law_863 ?_
  refine l_arg S hX hbl hw1.2.2.2.1 hl 1 0 rfl rfl (j := 3) (by decide) (by omega) (by omega) d_law_864 d_law_865 d_law_866 d_law_867 d_law_868 ?_
  refine l_call (a := 0) (As := [.int (xs (6 * cnt + 1)), .int (xs (6 * cnt + 2)), .int (xs (6 * cnt + 3))]) (rest := []) S hO1 lk_L_94 (c_X_pay hY1 e1) rfl (kX hY1 rfl) (nX hY1 (by decide)) (by decide) rfl rfl (by decide) hl.1 (by omega) (by omega) rfl (Nat.le_of_ble_eq_true rfl) d_law_869 hw1 hw2 hdis (fun H1 locs1 hw1 hw2 => ?_)
  refine lv_aload_n S.1 S.2.1 d_law_872.1 rfl (lv_at hl 3 rfl) ?_
  refine l_arg S hX hbl hw1.2.2.2.1 hl 1 0 rfl rfl (j := 1) (by decide) (by omega) (by omega) d_law_873 d_law_874 d_law_875 d_law_876 d_law_877 ?_
  refine l_arg S hX hbl hw1.2.2.2.1 hl 1 0 rfl rfl (j := 2) (by decide) (by omega) (by omega) d_law_878 d_law_879 d_law_880 d_law_881 d_law_882 ?_
  refine l_arg S hX hbl hw1.2.2.2.1 hl 1 0 rfl rfl (j := 3) (by decide) (by omega) (by omega) d_law_883 d_law_884 d_law_885 d_law_886 d_law_887 ?_
  refine l_call (a := 0) (As := [.int (xs (6 * cnt + 1)), .int (xs (6 * cnt + 2)), .int (xs (6 * cnt + 3))]) (rest := [.int r]) S hO2 lk_L_97 (c_M_pay hY2 e2) rfl (kM hY2 rfl) (nM hY2 (by decide)) (by decide) rfl rfl (by decide) hl.1 (by omega) (by omega) rfl (Nat.le_of_ble_eq_true rfl) d_law_888 hw2 hw1 (fun a b ha hb h => hdis b a hb ha h.symm) (fun H1 locs1 hw2 hw1 => ?_)
  refine lv_icmp_eq (tgt := 1688) S.1 S.2.1 d_law_891.1 (by decide) (fun _ => ?_) (fun h => absurd rfl h)
  refine W.widen (k := 105 + cnt + 1) (n := 8020 + 6 * cnt + 6) (by omega) (by omega) ?_
  exact k n Y1 Y2 ν1 ν2 H1 locs1 ⟨hY1, hn, hY2, hw1, hw2, hdis, hO1, hO2, rfl, rfl, hInv⟩
theorem law_c20 {p : Program} {l : Launch} {e : Env} {s : State} {m : MethodId} {args : Array Value} {below : List Frame} {meth : Method} {c : Code} {H : Heap} {locs : List Loc} {ls : Array Slot} {Q : State → Prop} {Y1 Y2 : Lay} {μ1 μ2 : Mem} {b L x0 m0 cnt n : Nat} {xs : Nat → Int32} (S : CallFix p m c code 4 s args TT "TopYardLaw") (hX : va_X b L xs s s.heap) (hbl : b < s.heap.size) (hI : LI s x0 m0 cnt n Y1 Y2 μ1 μ2 H locs) (hc : cnt < 512) (hl : lv_has ls 4 [(3, .int (nI (6 * cnt))), (0, .ref b), (1, .ref x0), (2, .ref m0)]) (hij : 6 * cnt + 6 ≤ L) (hL : L ≤ 3072) (k : LN p l e s m args below meth c x0 m0 cnt Q ls) : WL p l e s m args below meth c H locs (105 + cnt) (8020 + 6 * cnt) Q (F0 m 896 ls []) := by
  obtain ⟨hY1, hn, hY2, hw1, hw2, hdis, hO1, hO2, rfl, rfl, hInv⟩ := hI
  obtain ⟨r, e1, e2, hInv⟩ := s_pays hInv hc (xs (6 * cnt + 1)) (xs (6 * cnt + 2))
  refine lv_aload_n S.1 S.2.1 d_law_896.1 rfl (lv_at hl 2 rfl) ?_
  refine l_arg S hX hbl hw1.2.2.2.1 hl 1 0 rfl rfl (j := 1) (by decide) (by omega) (by omega) d_law_897 d_law_898 d_law_899 d_law_900 d_law_901 ?_
  refine l_arg S hX hbl hw1.2.2.2.1 hl 1 0 rfl rfl (j := 2) (by decide) (by omega) (by omega) d_law_902 d_law_903 d_law_904 d_law_905 d_law_906 ?_
  refine l_call (a := 0) (As := [.int (xs (6 * cnt + 1)), .int (xs (6 * cnt + 2))]) (rest := []) S hO1 lk_L_98 (c_X_pays hY1 e1) rfl (kX hY1 rfl) (nX hY1 (by decide)) (by decide) rfl rfl (by decide) hl.1 (by omega) (by omega) rfl (Nat.le_of_ble_eq_true rfl) d_law_907 hw1 hw2 hdis (fun H1 locs1 hw1 hw2 => ?_)
  refine lv_aload_n S.1 S.2.1 d_law_910.1 rfl (lv_at hl 3 rfl) ?_
  refine l_arg S hX hbl hw1.2.2.2.1 hl 1 0 rfl rfl (j := 1) (by decide) (by omega) (by omega) d_law_911 d_law_912 d_law_913 d_law_914 d_law_915 ?_
  refine l_arg S hX hbl hw1.2.2.2.1 hl 1 0 rfl rfl (j := 2) (by decide) (by omega) (by omega) d_law_916 d_law_917 d_law_918 d_law_919 d_law_920 ?_
  refine l_call (a := 0) (As := [.int (xs (6 * cnt + 1)), .int (xs (6 * cnt + 2))]) (rest := [.int r]) S hO2 lk_L_101 (c_M_pays hY2 e2) rfl (kM hY2 rfl) (nM hY2 (by decide)) (by decide) rfl rfl (by decide) hl.1 (by omega) (by omega) rfl (Nat.le_of_ble_eq_true rfl) d_law_921 hw2 hw1 (fun a b ha hb h => hdis b a hb ha h.symm) (fun H1 locs1 hw2 hw1 => ?_)
  refine lv_icmp_eq (tgt := 1688) S.1 S.2.1 d_law_924.1 (by decide) (fun _ => ?_) (fun h => absurd rfl h)
  refine W.widen (k := 105 + cnt + 1) (n := 8020 + 6 * cnt + 6) (by omega) (by omega) ?_
  exact k n Y1 Y2 μ1 μ2 H1 locs1 ⟨hY1, hn, hY2, hw1, hw2, hdis, hO1, hO2, rfl, rfl, hInv⟩
theorem law_c21 {p : Program} {l : Launch} {e : Env} {s : State} {m : MethodId} {args : Array Value} {below : List Frame} {meth : Method} {c : Code} {H : Heap} {locs : List Loc} {ls : Array Slot} {Q : State → Prop} {Y1 Y2 : Lay} {μ1 μ2 : Mem} {b L x0 m0 cnt n : Nat} {xs : Nat → Int32} (S : CallFix p m c code 4 s args TT "TopYardLaw") (hX : va_X b L xs s s.heap) (hbl : b < s.heap.size) (hI : LI s x0 m0 cnt n Y1 Y2 μ1 μ2 H locs) (hc : cnt < 512) (hl : lv_has ls 4 [(3, .int (nI (6 * cnt))), (0, .ref b), (1, .ref x0), (2, .ref m0)]) (hij : 6 * cnt + 6 ≤ L) (hL : L ≤ 3072) (k : LN p l e s m args below meth c x0 m0 cnt Q ls) : WL p l e s m args below meth c H locs (105 + cnt) (8020 + 6 * cnt) Q (F0 m 929 ls []) := by
  obtain ⟨hY1, hn, hY2, hw1, hw2, hdis, hO1, hO2, rfl, rfl, hInv⟩ := hI
  obtain ⟨r, ν1, ν2, e1, e2, hInv⟩ := s_fill hInv hc
  refine lv_aload_n S.1 S.2.1 d_law_929.1 rfl (lv_at hl 2 rfl) ?_
  refine l_call (a := 0) (As := []) (rest := []) S hO1 lk_L_102 (c_X_fill hY1 e1) rfl (kX hY1 rfl) (nX hY1 (by decide)) (by decide) rfl rfl (by decide) hl.1 (by omega) (by omega) rfl (Nat.le_of_ble_eq_true rfl) d_law_930 hw1 hw2 hdis (fun H1 locs1 hw1 hw2 => ?_)
  refine lv_aload_n S.1 S.2.1 d_law_933.1 rfl (lv_at hl 3 rfl) ?_
  refine l_call (a := 0) (As := []) (rest := [.int r]) S hO2 lk_L_105 (c_M_fill hY2 e2) rfl (kM hY2 rfl) (nM hY2 (by decide)) (by decide) rfl rfl (by decide) hl.1 (by omega) (by omega) rfl (Nat.le_of_ble_eq_true rfl) d_law_934 hw2 hw1 (fun a b ha hb h => hdis b a hb ha h.symm) (fun H1 locs1 hw2 hw1 => ?_)
  refine lv_icmp_eq (tgt := 1688) S.1 S.2.1 d_law_937.1 (by decide) (fun _ => ?_) (fun h => absurd rfl h)
  refine W.widen (k := 105 + cnt + 1) (n := 8020 + 6 * cnt + 6) (by omega) (by omega) ?_
  exact k n Y1 Y2 ν1 ν2 H1 locs1 ⟨hY1, hn, hY2, hw1, hw2, hdis, hO1, hO2, rfl, rfl, hInv⟩
theorem law_c22 {p : Program} {l : Launch} {e : Env} {s : State} {m : MethodId} {args : Array Value} {below : List Frame} {meth : Method} {c : Code} {H : Heap} {locs : List Loc} {ls : Array Slot} {Q : State → Prop} {Y1 Y2 : Lay} {μ1 μ2 : Mem} {b L x0 m0 cnt n : Nat} {xs : Nat → Int32} (S : CallFix p m c code 4 s args TT "TopYardLaw") (hX : va_X b L xs s s.heap) (hbl : b < s.heap.size) (hI : LI s x0 m0 cnt n Y1 Y2 μ1 μ2 H locs) (hc : cnt < 512) (hl : lv_has ls 4 [(3, .int (nI (6 * cnt))), (0, .ref b), (1, .ref x0), (2, .ref m0)]) (hij : 6 * cnt + 6 ≤ L) (hL : L ≤ 3072) (k : LN p l e s m args below meth c x0 m0 cnt Q ls) : WL p l e s m args below meth c H locs (105 + cnt) (8020 + 6 * cnt) Q (F0 m 942 ls []) := by
  obtain ⟨hY1, hn, hY2, hw1, hw2, hdis, hO1, hO2, rfl, rfl, hInv⟩ := hI
  obtain ⟨r, ν1, ν2, e1, e2, hInv⟩ := s_value hInv hc
  refine lv_aload_n S.1 S.2.1 d_law_942.1 rfl (lv_at hl 2 rfl) ?_
  refine l_call (a := 0) (As := []) (rest := []) S hO1 lk_L_106 (c_X_value hY1 e1) rfl (kX hY1 rfl) (nX hY1 (by decide)) (by decide) rfl rfl (by decide) hl.1 (by omega) (by omega) rfl (Nat.le_of_ble_eq_true rfl) d_law_943 hw1 hw2 hdis (fun H1 locs1 hw1 hw2 => ?_)
  refine lv_aload_n S.1 S.2.1 d_law_946.1 rfl (lv_at hl 3 rfl) ?_
  refine l_call (a := 0) (As := []) (rest := [.int r]) S hO2 lk_L_109 (c_M_value hY2 e2) rfl (kM hY2 rfl) (nM hY2 (by decide)) (by decide) rfl rfl (by decide) hl.1 (by omega) (by omega) rfl (Nat.le_of_ble_eq_true rfl) d_law_947 hw2 hw1 (fun a b ha hb h => hdis b a hb ha h.symm) (fun H1 locs1 hw2 hw1 => ?_)
  refine lv_icmp_eq (tgt := 1688) S.1 S.2.1 d_law_950.1 (by decide) (fun _ => ?_) (fun h => absurd rfl h)
  refine W.widen (k := 105 + cnt + 1) (n := 8020 + 6 * cnt + 6) (by omega) (by omega) ?_
  exact k n Y1 Y2 ν1 ν2 H1 locs1 ⟨hY1, hn, hY2, hw1, hw2, hdis, hO1, hO2, rfl, rfl, hInv⟩
theorem law_c23 {p : Program} {l : Launch} {e : Env} {s : State} {m : MethodId} {args : Array Value} {below : List Frame} {meth : Method} {c : Code} {H : Heap} {locs : List Loc} {ls : Array Slot} {Q : State → Prop} {Y1 Y2 : Lay} {μ1 μ2 : Mem} {b L x0 m0 cnt n : Nat} {xs : Nat → Int32} (S : CallFix p m c code 4 s args TT "TopYardLaw") (hX : va_X b L xs s s.heap) (hbl : b < s.heap.size) (hI : LI s x0 m0 cnt n Y1 Y2 μ1 μ2 H locs) (hc : cnt < 512) (hl : lv_has ls 4 [(3, .int (nI (6 * cnt))), (0, .ref b), (1, .ref x0), (2, .ref m0)]) (hij : 6 * cnt + 6 ≤ L) (hL : L ≤ 3072) (k : LN p l e s m args below meth c x0 m0 cnt Q ls) : WL p l e s m args below meth c H locs (105 + cnt) (8020 + 6 * cnt) Q (F0 m 955 ls []) := by
  obtain ⟨hY1, hn, hY2, hw1, hw2, hdis, hO1, hO2, rfl, rfl, hInv⟩ := hI
  obtain ⟨r, ν1, ν2, e1, e2, hInv⟩ := s_mix hInv hc (xs (6 * cnt + 1)) (xs (6 * cnt + 2))
  refine lv_aload_n S.1 S.2.1 d_law_955.1 rfl (lv_at hl 2 rfl) ?_
  refine l_arg S hX hbl hw1.2.2.2.1 hl 1 0 rfl rfl (j := 1) (by decide) (by omega) (by omega) d_law_956 d_law_957 d_law_958 d_law_959 d_law_960 ?_
  refine l_arg S hX hbl hw1.2.2.2.1 hl 1 0 rfl rfl (j := 2) (by decide) (by omega) (by omega) d_law_961 d_law_962 d_law_963 d_law_964 d_law_965 ?_
  refine l_call (a := 0) (As := [.int (xs (6 * cnt + 1)), .int (xs (6 * cnt + 2))]) (rest := []) S hO1 lk_L_110 (c_X_mix hY1 e1) rfl (kX hY1 rfl) (nX hY1 (by decide)) (by decide) rfl rfl (by decide) hl.1 (by omega) (by omega) rfl (Nat.le_of_ble_eq_true rfl) d_law_966 hw1 hw2 hdis (fun H1 locs1 hw1 hw2 => ?_)
  refine lv_aload_n S.1 S.2.1 d_law_969.1 rfl (lv_at hl 3 rfl) ?_
  refine l_arg S hX hbl hw1.2.2.2.1 hl 1 0 rfl rfl (j := 1) (by decide) (by omega) (by omega) d_law_970 d_law_971 d_law_972 d_law_973 d_law_974 ?_
  refine l_arg S hX hbl hw1.2.2.2.1 hl 1 0 rfl rfl (j := 2) (by decide) (by omega) (by omega) d_law_975 d_law_976 d_law_977 d_law_978 d_law_979 ?_
  refine l_call (a := 0) (As := [.int (xs (6 * cnt + 1)), .int (xs (6 * cnt + 2))]) (rest := [.int r]) S hO2 lk_L_113 (c_M_mix hY2 e2) rfl (kM hY2 rfl) (nM hY2 (by decide)) (by decide) rfl rfl (by decide) hl.1 (by omega) (by omega) rfl (Nat.le_of_ble_eq_true rfl) d_law_980 hw2 hw1 (fun a b ha hb h => hdis b a hb ha h.symm) (fun H1 locs1 hw2 hw1 => ?_)
  refine lv_icmp_eq (tgt := 1688) S.1 S.2.1 d_law_983.1 (by decide) (fun _ => ?_) (fun h => absurd rfl h)
  refine W.widen (k := 105 + cnt + 1) (n := 8020 + 6 * cnt + 6) (by omega) (by omega) ?_
  exact k n Y1 Y2 ν1 ν2 H1 locs1 ⟨hY1, hn, hY2, hw1, hw2, hdis, hO1, hO2, rfl, rfl, hInv⟩
theorem law_c24 {p : Program} {l : Launch} {e : Env} {s : State} {m : MethodId} {args : Array Value} {below : List Frame} {meth : Method} {c : Code} {H : Heap} {locs : List Loc} {ls : Array Slot} {Q : State → Prop} {Y1 Y2 : Lay} {μ1 μ2 : Mem} {b L x0 m0 cnt n : Nat} {xs : Nat → Int32} (S : CallFix p m c code 4 s args TT "TopYardLaw") (hX : va_X b L xs s s.heap) (hbl : b < s.heap.size) (hI : LI s x0 m0 cnt n Y1 Y2 μ1 μ2 H locs) (hc : cnt < 512) (hl : lv_has ls 4 [(3, .int (nI (6 * cnt))), (0, .ref b), (1, .ref x0), (2, .ref m0)]) (hij : 6 * cnt + 6 ≤ L) (hL : L ≤ 3072) (k : LN p l e s m args below meth c x0 m0 cnt Q ls) : WL p l e s m args below meth c H locs (105 + cnt) (8020 + 6 * cnt) Q (F0 m 988 ls []) := by
  obtain ⟨hY1, hn, hY2, hw1, hw2, hdis, hO1, hO2, rfl, rfl, hInv⟩ := hI
  obtain ⟨r, ν1, ν2, e1, e2, hInv⟩ := s_expected hInv hc (xs (6 * cnt + 1)) (xs (6 * cnt + 2))
  refine lv_aload_n S.1 S.2.1 d_law_988.1 rfl (lv_at hl 2 rfl) ?_
  refine l_arg S hX hbl hw1.2.2.2.1 hl 1 0 rfl rfl (j := 1) (by decide) (by omega) (by omega) d_law_989 d_law_990 d_law_991 d_law_992 d_law_993 ?_
  refine l_arg S hX hbl hw1.2.2.2.1 hl 1 0 rfl rfl (j := 2) (by decide) (by omega) (by omega) d_law_994 d_law_995 d_law_996 d_law_997 d_law_998 ?_
  refine l_call (a := 0) (As := [.int (xs (6 * cnt + 1)), .int (xs (6 * cnt + 2))]) (rest := []) S hO1 lk_L_114 (c_X_expected hY1 e1) rfl (kX hY1 rfl) (nX hY1 (by decide)) (by decide) rfl rfl (by decide) hl.1 (by omega) (by omega) rfl (Nat.le_of_ble_eq_true rfl) d_law_999 hw1 hw2 hdis (fun H1 locs1 hw1 hw2 => ?_)
  refine lv_aload_n S.1 S.2.1 d_law_1002.1 rfl (lv_at hl 3 rfl) ?_
  refine l_arg S hX hbl hw1.2.2.2.1 hl 1 0 rfl rfl (j := 1) (by decide) (by omega) (by omega) d_law_1003 d_law_1004 d_law_1005 d_law_1006 d_law_1007 ?_
  refine l_arg S hX hbl hw1.2.2.2.1 hl 1 0 rfl rfl (j := 2) (by decide) (by omega) (by omega) d_law_1008 d_law_1009 d_law_1010 d_law_1011 d_law_1012 ?_
  refine l_call (a := 0) (As := [.int (xs (6 * cnt + 1)), .int (xs (6 * cnt + 2))]) (rest := [.int r]) S hO2 lk_L_117 (c_M_expected hY2 e2) rfl (kM hY2 rfl) (nM hY2 (by decide)) (by decide) rfl rfl (by decide) hl.1 (by omega) (by omega) rfl (Nat.le_of_ble_eq_true rfl) d_law_1013 hw2 hw1 (fun a b ha hb h => hdis b a hb ha h.symm) (fun H1 locs1 hw2 hw1 => ?_)
  refine lv_icmp_eq (tgt := 1688) S.1 S.2.1 d_law_1016.1 (by decide) (fun _ => ?_) (fun h => absurd rfl h)
  refine W.widen (k := 105 + cnt + 1) (n := 8020 + 6 * cnt + 6) (by omega) (by omega) ?_
  exact k n Y1 Y2 ν1 ν2 H1 locs1 ⟨hY1, hn, hY2, hw1, hw2, hdis, hO1, hO2, rfl, rfl, hInv⟩
theorem law_c25 {p : Program} {l : Launch} {e : Env} {s : State} {m : MethodId} {args : Array Value} {below : List Frame} {meth : Method} {c : Code} {H : Heap} {locs : List Loc} {ls : Array Slot} {Q : State → Prop} {Y1 Y2 : Lay} {μ1 μ2 : Mem} {b L x0 m0 cnt n : Nat} {xs : Nat → Int32} (S : CallFix p m c code 4 s args TT "TopYardLaw") (hX : va_X b L xs s s.heap) (hbl : b < s.heap.size) (hI : LI s x0 m0 cnt n Y1 Y2 μ1 μ2 H locs) (hc : cnt < 512) (hl : lv_has ls 4 [(3, .int (nI (6 * cnt))), (0, .ref b), (1, .ref x0), (2, .ref m0)]) (hij : 6 * cnt + 6 ≤ L) (hL : L ≤ 3072) (k : LN p l e s m args below meth c x0 m0 cnt Q ls) : WL p l e s m args below meth c H locs (105 + cnt) (8020 + 6 * cnt) Q (F0 m 1021 ls []) := by
  obtain ⟨hY1, hn, hY2, hw1, hw2, hdis, hO1, hO2, rfl, rfl, hInv⟩ := hI
  obtain ⟨r, ν1, ν2, e1, e2, hInv⟩ := s_was hInv hc (xs (6 * cnt + 1)) (xs (6 * cnt + 2)) (xs (6 * cnt + 3))
  refine lv_aload_n S.1 S.2.1 d_law_1021.1 rfl (lv_at hl 2 rfl) ?_
  refine l_arg S hX hbl hw1.2.2.2.1 hl 1 0 rfl rfl (j := 1) (by decide) (by omega) (by omega) d_law_1022 d_law_1023 d_law_1024 d_law_1025 d_law_1026 ?_
  refine l_arg S hX hbl hw1.2.2.2.1 hl 1 0 rfl rfl (j := 2) (by decide) (by omega) (by omega) d_law_1027 d_law_1028 d_law_1029 d_law_1030 d_law_1031 ?_
  refine l_arg S hX hbl hw1.2.2.2.1 hl 1 0 rfl rfl (j := 3) (by decide) (by omega) (by omega) d_law_1032 d_law_1033 d_law_1034 d_law_1035 d_law_1036 ?_
  refine l_call (a := 0) (As := [.int (xs (6 * cnt + 1)), .int (xs (6 * cnt + 2)), .int (xs (6 * cnt + 3))]) (rest := []) S hO1 lk_L_118 (c_X_was hY1 e1) rfl (kX hY1 rfl) (nX hY1 (by decide)) (by decide) rfl rfl (by decide) hl.1 (by omega) (by omega) rfl (Nat.le_of_ble_eq_true rfl) d_law_1037 hw1 hw2 hdis (fun H1 locs1 hw1 hw2 => ?_)
  refine lv_aload_n S.1 S.2.1 d_law_1040.1 rfl (lv_at hl 3 rfl) ?_
  refine l_arg S hX hbl hw1.2.2.2.1 hl 1 0 rfl rfl (j := 1) (by decide) (by omega) (by omega) d_law_1041 d_law_1042 d_law_1043 d_law_1044 d_law_1045 ?_
  refine l_arg S hX hbl hw1.2.2.2.1 hl 1 0 rfl rfl (j := 2) (by decide) (by omega) (by omega) d_law_1046 d_law_1047 d_law_1048 d_law_1049 d_law_1050 ?_
  refine l_arg S hX hbl hw1.2.2.2.1 hl 1 0 rfl rfl (j := 3) (by decide) (by omega) (by omega) d_law_1051 d_law_1052 d_law_1053 d_law_1054 d_law_1055 ?_
  refine l_call (a := 0) (As := [.int (xs (6 * cnt + 1)), .int (xs (6 * cnt + 2)), .int (xs (6 * cnt + 3))]) (rest := [.int r]) S hO2 lk_L_121 (c_M_was hY2 e2) rfl (kM hY2 rfl) (nM hY2 (by decide)) (by decide) rfl rfl (by decide) hl.1 (by omega) (by omega) rfl (Nat.le_of_ble_eq_true rfl) d_law_1056 hw2 hw1 (fun a b ha hb h => hdis b a hb ha h.symm) (fun H1 locs1 hw2 hw1 => ?_)
  refine lv_icmp_eq (tgt := 1688) S.1 S.2.1 d_law_1059.1 (by decide) (fun _ => ?_) (fun h => absurd rfl h)
  refine W.widen (k := 105 + cnt + 1) (n := 8020 + 6 * cnt + 6) (by omega) (by omega) ?_
  exact k n Y1 Y2 ν1 ν2 H1 locs1 ⟨hY1, hn, hY2, hw1, hw2, hdis, hO1, hO2, rfl, rfl, hInv⟩
theorem law_c26 {p : Program} {l : Launch} {e : Env} {s : State} {m : MethodId} {args : Array Value} {below : List Frame} {meth : Method} {c : Code} {H : Heap} {locs : List Loc} {ls : Array Slot} {Q : State → Prop} {Y1 Y2 : Lay} {μ1 μ2 : Mem} {b L x0 m0 cnt n : Nat} {xs : Nat → Int32} (S : CallFix p m c code 4 s args TT "TopYardLaw") (hX : va_X b L xs s s.heap) (hbl : b < s.heap.size) (hI : LI s x0 m0 cnt n Y1 Y2 μ1 μ2 H locs) (hc : cnt < 512) (hl : lv_has ls 4 [(3, .int (nI (6 * cnt))), (0, .ref b), (1, .ref x0), (2, .ref m0)]) (hij : 6 * cnt + 6 ≤ L) (hL : L ≤ 3072) (k : LN p l e s m args below meth c x0 m0 cnt Q ls) : WL p l e s m args below meth c H locs (105 + cnt) (8020 + 6 * cnt) Q (F0 m 1064 ls []) := by
  obtain ⟨hY1, hn, hY2, hw1, hw2, hdis, hO1, hO2, rfl, rfl, hInv⟩ := hI
  obtain ⟨r, ν1, ν2, e1, e2, hInv⟩ := s_forget hInv hc
  refine lv_aload_n S.1 S.2.1 d_law_1064.1 rfl (lv_at hl 2 rfl) ?_
  refine l_call (a := 0) (As := []) (rest := []) S hO1 lk_L_122 (c_X_forget hY1 e1) rfl (kX hY1 rfl) (nX hY1 (by decide)) (by decide) rfl rfl (by decide) hl.1 (by omega) (by omega) rfl (Nat.le_of_ble_eq_true rfl) d_law_1065 hw1 hw2 hdis (fun H1 locs1 hw1 hw2 => ?_)
  refine lv_aload_n S.1 S.2.1 d_law_1068.1 rfl (lv_at hl 3 rfl) ?_
  refine l_call (a := 0) (As := []) (rest := [.int r]) S hO2 lk_L_125 (c_M_forget hY2 e2) rfl (kM hY2 rfl) (nM hY2 (by decide)) (by decide) rfl rfl (by decide) hl.1 (by omega) (by omega) rfl (Nat.le_of_ble_eq_true rfl) d_law_1069 hw2 hw1 (fun a b ha hb h => hdis b a hb ha h.symm) (fun H1 locs1 hw2 hw1 => ?_)
  refine lv_icmp_eq (tgt := 1688) S.1 S.2.1 d_law_1072.1 (by decide) (fun _ => ?_) (fun h => absurd rfl h)
  refine W.widen (k := 105 + cnt + 1) (n := 8020 + 6 * cnt + 6) (by omega) (by omega) ?_
  exact k n Y1 Y2 ν1 ν2 H1 locs1 ⟨hY1, hn, hY2, hw1, hw2, hdis, hO1, hO2, rfl, rfl, hInv⟩
theorem law_c27 {p : Program} {l : Launch} {e : Env} {s : State} {m : MethodId} {args : Array Value} {below : List Frame} {meth : Method} {c : Code} {H : Heap} {locs : List Loc} {ls : Array Slot} {Q : State → Prop} {Y1 Y2 : Lay} {μ1 μ2 : Mem} {b L x0 m0 cnt n : Nat} {xs : Nat → Int32} (S : CallFix p m c code 4 s args TT "TopYardLaw") (hX : va_X b L xs s s.heap) (hbl : b < s.heap.size) (hI : LI s x0 m0 cnt n Y1 Y2 μ1 μ2 H locs) (hc : cnt < 512) (hl : lv_has ls 4 [(3, .int (nI (6 * cnt))), (0, .ref b), (1, .ref x0), (2, .ref m0)]) (hij : 6 * cnt + 6 ≤ L) (hL : L ≤ 3072) (k : LN p l e s m args below meth c x0 m0 cnt Q ls) : WL p l e s m args below meth c H locs (105 + cnt) (8020 + 6 * cnt) Q (F0 m 1077 ls []) := by
  obtain ⟨hY1, hn, hY2, hw1, hw2, hdis, hO1, hO2, rfl, rfl, hInv⟩ := hI
  obtain ⟨r, ν1, ν2, e1, e2, hInv⟩ := s_read hInv hc (xs (6 * cnt + 1))
  refine lv_aload_n S.1 S.2.1 d_law_1077.1 rfl (lv_at hl 2 rfl) ?_
  refine l_arg S hX hbl hw1.2.2.2.1 hl 1 0 rfl rfl (j := 1) (by decide) (by omega) (by omega) d_law_1078 d_law_1079 d_law_1080 d_law_1081 d_law_1082 ?_
  refine l_call (a := 0) (As := [.int (xs (6 * cnt + 1))]) (rest := []) S hO1 lk_L_126 (c_X_read hY1 e1) rfl (kX hY1 rfl) (nX hY1 (by decide)) (by decide) rfl rfl (by decide) hl.1 (by omega) (by omega) rfl (Nat.le_of_ble_eq_true rfl) d_law_1083 hw1 hw2 hdis (fun H1 locs1 hw1 hw2 => ?_)
  refine lv_aload_n S.1 S.2.1 d_law_1086.1 rfl (lv_at hl 3 rfl) ?_
  refine l_arg S hX hbl hw1.2.2.2.1 hl 1 0 rfl rfl (j := 1) (by decide) (by omega) (by omega) d_law_1087 d_law_1088 d_law_1089 d_law_1090 d_law_1091 ?_
  refine l_call (a := 0) (As := [.int (xs (6 * cnt + 1))]) (rest := [.int r]) S hO2 lk_L_129 (c_M_read hY2 e2) rfl (kM hY2 rfl) (nM hY2 (by decide)) (by decide) rfl rfl (by decide) hl.1 (by omega) (by omega) rfl (Nat.le_of_ble_eq_true rfl) d_law_1092 hw2 hw1 (fun a b ha hb h => hdis b a hb ha h.symm) (fun H1 locs1 hw2 hw1 => ?_)
  refine lv_icmp_eq (tgt := 1688) S.1 S.2.1 d_law_1095.1 (by decide) (fun _ => ?_) (fun h => absurd rfl h)
  refine W.widen (k := 105 + cnt + 1) (n := 8020 + 6 * cnt + 6) (by omega) (by omega) ?_
  exact k n Y1 Y2 ν1 ν2 H1 locs1 ⟨hY1, hn, hY2, hw1, hw2, hdis, hO1, hO2, rfl, rfl, hInv⟩
theorem law_c28 {p : Program} {l : Launch} {e : Env} {s : State} {m : MethodId} {args : Array Value} {below : List Frame} {meth : Method} {c : Code} {H : Heap} {locs : List Loc} {ls : Array Slot} {Q : State → Prop} {Y1 Y2 : Lay} {μ1 μ2 : Mem} {b L x0 m0 cnt n : Nat} {xs : Nat → Int32} (S : CallFix p m c code 4 s args TT "TopYardLaw") (hX : va_X b L xs s s.heap) (hbl : b < s.heap.size) (hI : LI s x0 m0 cnt n Y1 Y2 μ1 μ2 H locs) (hc : cnt < 512) (hl : lv_has ls 4 [(3, .int (nI (6 * cnt))), (0, .ref b), (1, .ref x0), (2, .ref m0)]) (hij : 6 * cnt + 6 ≤ L) (hL : L ≤ 3072) (k : LN p l e s m args below meth c x0 m0 cnt Q ls) : WL p l e s m args below meth c H locs (105 + cnt) (8020 + 6 * cnt) Q (F0 m 1100 ls []) := by
  obtain ⟨hY1, hn, hY2, hw1, hw2, hdis, hO1, hO2, rfl, rfl, hInv⟩ := hI
  obtain ⟨r, ν1, ν2, e1, e2, hInv⟩ := s_worn hInv hc (xs (6 * cnt + 1)) (xs (6 * cnt + 2))
  refine lv_aload_n S.1 S.2.1 d_law_1100.1 rfl (lv_at hl 2 rfl) ?_
  refine l_arg S hX hbl hw1.2.2.2.1 hl 1 0 rfl rfl (j := 1) (by decide) (by omega) (by omega) d_law_1101 d_law_1102 d_law_1103 d_law_1104 d_law_1105 ?_
  refine l_arg S hX hbl hw1.2.2.2.1 hl 1 0 rfl rfl (j := 2) (by decide) (by omega) (by omega) d_law_1106 d_law_1107 d_law_1108 d_law_1109 d_law_1110 ?_
  refine l_call (a := 0) (As := [.int (xs (6 * cnt + 1)), .int (xs (6 * cnt + 2))]) (rest := []) S hO1 lk_L_130 (c_X_worn hY1 e1) rfl (kX hY1 rfl) (nX hY1 (by decide)) (by decide) rfl rfl (by decide) hl.1 (by omega) (by omega) rfl (Nat.le_of_ble_eq_true rfl) d_law_1111 hw1 hw2 hdis (fun H1 locs1 hw1 hw2 => ?_)
  refine lv_aload_n S.1 S.2.1 d_law_1114.1 rfl (lv_at hl 3 rfl) ?_
  refine l_arg S hX hbl hw1.2.2.2.1 hl 1 0 rfl rfl (j := 1) (by decide) (by omega) (by omega) d_law_1115 d_law_1116 d_law_1117 d_law_1118 d_law_1119 ?_
  refine l_arg S hX hbl hw1.2.2.2.1 hl 1 0 rfl rfl (j := 2) (by decide) (by omega) (by omega) d_law_1120 d_law_1121 d_law_1122 d_law_1123 d_law_1124 ?_
  refine l_call (a := 0) (As := [.int (xs (6 * cnt + 1)), .int (xs (6 * cnt + 2))]) (rest := [.int r]) S hO2 lk_L_133 (c_M_worn hY2 e2) rfl (kM hY2 rfl) (nM hY2 (by decide)) (by decide) rfl rfl (by decide) hl.1 (by omega) (by omega) rfl (Nat.le_of_ble_eq_true rfl) d_law_1125 hw2 hw1 (fun a b ha hb h => hdis b a hb ha h.symm) (fun H1 locs1 hw2 hw1 => ?_)
  refine lv_icmp_eq (tgt := 1688) S.1 S.2.1 d_law_1128.1 (by decide) (fun _ => ?_) (fun h => absurd rfl h)
  refine W.widen (k := 105 + cnt + 1) (n := 8020 + 6 * cnt + 6) (by omega) (by omega) ?_
  exact k n Y1 Y2 ν1 ν2 H1 locs1 ⟨hY1, hn, hY2, hw1, hw2, hdis, hO1, hO2, rfl, rfl, hInv⟩
theorem law_c29 {p : Program} {l : Launch} {e : Env} {s : State} {m : MethodId} {args : Array Value} {below : List Frame} {meth : Method} {c : Code} {H : Heap} {locs : List Loc} {ls : Array Slot} {Q : State → Prop} {Y1 Y2 : Lay} {μ1 μ2 : Mem} {b L x0 m0 cnt n : Nat} {xs : Nat → Int32} (S : CallFix p m c code 4 s args TT "TopYardLaw") (hX : va_X b L xs s s.heap) (hbl : b < s.heap.size) (hI : LI s x0 m0 cnt n Y1 Y2 μ1 μ2 H locs) (hc : cnt < 512) (hl : lv_has ls 4 [(3, .int (nI (6 * cnt))), (0, .ref b), (1, .ref x0), (2, .ref m0)]) (hij : 6 * cnt + 6 ≤ L) (hL : L ≤ 3072) (k : LN p l e s m args below meth c x0 m0 cnt Q ls) : WL p l e s m args below meth c H locs (105 + cnt) (8020 + 6 * cnt) Q (F0 m 1133 ls []) := by
  obtain ⟨hY1, hn, hY2, hw1, hw2, hdis, hO1, hO2, rfl, rfl, hInv⟩ := hI
  obtain ⟨r, ν1, ν2, e1, e2, hInv⟩ := s_most hInv hc
  refine lv_aload_n S.1 S.2.1 d_law_1133.1 rfl (lv_at hl 2 rfl) ?_
  refine l_call (a := 0) (As := []) (rest := []) S hO1 lk_L_134 (c_X_most hY1 e1) rfl (kX hY1 rfl) (nX hY1 (by decide)) (by decide) rfl rfl (by decide) hl.1 (by omega) (by omega) rfl (Nat.le_of_ble_eq_true rfl) d_law_1134 hw1 hw2 hdis (fun H1 locs1 hw1 hw2 => ?_)
  refine lv_aload_n S.1 S.2.1 d_law_1137.1 rfl (lv_at hl 3 rfl) ?_
  refine l_call (a := 0) (As := []) (rest := [.int r]) S hO2 lk_L_137 (c_M_most hY2 e2) rfl (kM hY2 rfl) (nM hY2 (by decide)) (by decide) rfl rfl (by decide) hl.1 (by omega) (by omega) rfl (Nat.le_of_ble_eq_true rfl) d_law_1138 hw2 hw1 (fun a b ha hb h => hdis b a hb ha h.symm) (fun H1 locs1 hw2 hw1 => ?_)
  refine lv_icmp_eq (tgt := 1688) S.1 S.2.1 d_law_1141.1 (by decide) (fun _ => ?_) (fun h => absurd rfl h)
  refine W.widen (k := 105 + cnt + 1) (n := 8020 + 6 * cnt + 6) (by omega) (by omega) ?_
  exact k n Y1 Y2 ν1 ν2 H1 locs1 ⟨hY1, hn, hY2, hw1, hw2, hdis, hO1, hO2, rfl, rfl, hInv⟩
theorem law_c30 {p : Program} {l : Launch} {e : Env} {s : State} {m : MethodId} {args : Array Value} {below : List Frame} {meth : Method} {c : Code} {H : Heap} {locs : List Loc} {ls : Array Slot} {Q : State → Prop} {Y1 Y2 : Lay} {μ1 μ2 : Mem} {b L x0 m0 cnt n : Nat} {xs : Nat → Int32} (S : CallFix p m c code 4 s args TT "TopYardLaw") (hX : va_X b L xs s s.heap) (hbl : b < s.heap.size) (hI : LI s x0 m0 cnt n Y1 Y2 μ1 μ2 H locs) (hc : cnt < 512) (hl : lv_has ls 4 [(3, .int (nI (6 * cnt))), (0, .ref b), (1, .ref x0), (2, .ref m0)]) (hij : 6 * cnt + 6 ≤ L) (hL : L ≤ 3072) (k : LN p l e s m args below meth c x0 m0 cnt Q ls) : WL p l e s m args below meth c H locs (105 + cnt) (8020 + 6 * cnt) Q (F0 m 1146 ls []) := by
  obtain ⟨hY1, hn, hY2, hw1, hw2, hdis, hO1, hO2, rfl, rfl, hInv⟩ := hI
  obtain ⟨r, ν1, ν2, e1, e2, hInv⟩ := s_explained hInv hc (xs (6 * cnt + 1)) (xs (6 * cnt + 2))
  refine lv_aload_n S.1 S.2.1 d_law_1146.1 rfl (lv_at hl 2 rfl) ?_
  refine l_arg S hX hbl hw1.2.2.2.1 hl 1 0 rfl rfl (j := 1) (by decide) (by omega) (by omega) d_law_1147 d_law_1148 d_law_1149 d_law_1150 d_law_1151 ?_
  refine l_arg S hX hbl hw1.2.2.2.1 hl 1 0 rfl rfl (j := 2) (by decide) (by omega) (by omega) d_law_1152 d_law_1153 d_law_1154 d_law_1155 d_law_1156 ?_
  refine l_call (a := 0) (As := [.int (xs (6 * cnt + 1)), .int (xs (6 * cnt + 2))]) (rest := []) S hO1 lk_L_138 (c_X_explained hY1 e1) rfl (kX hY1 rfl) (nX hY1 (by decide)) (by decide) rfl rfl (by decide) hl.1 (by omega) (by omega) rfl (Nat.le_of_ble_eq_true rfl) d_law_1157 hw1 hw2 hdis (fun H1 locs1 hw1 hw2 => ?_)
  refine lv_aload_n S.1 S.2.1 d_law_1160.1 rfl (lv_at hl 3 rfl) ?_
  refine l_arg S hX hbl hw1.2.2.2.1 hl 1 0 rfl rfl (j := 1) (by decide) (by omega) (by omega) d_law_1161 d_law_1162 d_law_1163 d_law_1164 d_law_1165 ?_
  refine l_arg S hX hbl hw1.2.2.2.1 hl 1 0 rfl rfl (j := 2) (by decide) (by omega) (by omega) d_law_1166 d_law_1167 d_law_1168 d_law_1169 d_law_1170 ?_
  refine l_call (a := 0) (As := [.int (xs (6 * cnt + 1)), .int (xs (6 * cnt + 2))]) (rest := [.int r]) S hO2 lk_L_141 (c_M_explained hY2 e2) rfl (kM hY2 rfl) (nM hY2 (by decide)) (by decide) rfl rfl (by decide) hl.1 (by omega) (by omega) rfl (Nat.le_of_ble_eq_true rfl) d_law_1171 hw2 hw1 (fun a b ha hb h => hdis b a hb ha h.symm) (fun H1 locs1 hw2 hw1 => ?_)
  refine lv_icmp_eq (tgt := 1688) S.1 S.2.1 d_law_1174.1 (by decide) (fun _ => ?_) (fun h => absurd rfl h)
  refine W.widen (k := 105 + cnt + 1) (n := 8020 + 6 * cnt + 6) (by omega) (by omega) ?_
  exact k n Y1 Y2 ν1 ν2 H1 locs1 ⟨hY1, hn, hY2, hw1, hw2, hdis, hO1, hO2, rfl, rfl, hInv⟩
theorem law_c31 {p : Program} {l : Launch} {e : Env} {s : State} {m : MethodId} {args : Array Value} {below : List Frame} {meth : Method} {c : Code} {H : Heap} {locs : List Loc} {ls : Array Slot} {Q : State → Prop} {Y1 Y2 : Lay} {μ1 μ2 : Mem} {b L x0 m0 cnt n : Nat} {xs : Nat → Int32} (S : CallFix p m c code 4 s args TT "TopYardLaw") (hX : va_X b L xs s s.heap) (hbl : b < s.heap.size) (hI : LI s x0 m0 cnt n Y1 Y2 μ1 μ2 H locs) (hc : cnt < 512) (hl : lv_has ls 4 [(3, .int (nI (6 * cnt))), (0, .ref b), (1, .ref x0), (2, .ref m0)]) (hij : 6 * cnt + 6 ≤ L) (hL : L ≤ 3072) (k : LN p l e s m args below meth c x0 m0 cnt Q ls) : WL p l e s m args below meth c H locs (105 + cnt) (8020 + 6 * cnt) Q (F0 m 1179 ls []) := by
  obtain ⟨hY1, hn, hY2, hw1, hw2, hdis, hO1, hO2, rfl, rfl, hInv⟩ := hI
  obtain ⟨r, ν1, ν2, e1, e2, hInv⟩ := s_type hInv hc (xs (6 * cnt + 1))
  refine lv_aload_n S.1 S.2.1 d_law_1179.1 rfl (lv_at hl 2 rfl) ?_
  refine l_arg S hX hbl hw1.2.2.2.1 hl 1 0 rfl rfl (j := 1) (by decide) (by omega) (by omega) d_law_1180 d_law_1181 d_law_1182 d_law_1183 d_law_1184 ?_
  refine l_call (a := 0) (As := [.int (xs (6 * cnt + 1))]) (rest := []) S hO1 lk_L_142 (c_X_type hY1 e1) rfl (kX hY1 rfl) (nX hY1 (by decide)) (by decide) rfl rfl (by decide) hl.1 (by omega) (by omega) rfl (Nat.le_of_ble_eq_true rfl) d_law_1185 hw1 hw2 hdis (fun H1 locs1 hw1 hw2 => ?_)
  refine lv_aload_n S.1 S.2.1 d_law_1188.1 rfl (lv_at hl 3 rfl) ?_
  refine l_arg S hX hbl hw1.2.2.2.1 hl 1 0 rfl rfl (j := 1) (by decide) (by omega) (by omega) d_law_1189 d_law_1190 d_law_1191 d_law_1192 d_law_1193 ?_
  refine l_call (a := 0) (As := [.int (xs (6 * cnt + 1))]) (rest := [.int r]) S hO2 lk_L_145 (c_M_type hY2 e2) rfl (kM hY2 rfl) (nM hY2 (by decide)) (by decide) rfl rfl (by decide) hl.1 (by omega) (by omega) rfl (Nat.le_of_ble_eq_true rfl) d_law_1194 hw2 hw1 (fun a b ha hb h => hdis b a hb ha h.symm) (fun H1 locs1 hw2 hw1 => ?_)
  refine lv_icmp_eq (tgt := 1688) S.1 S.2.1 d_law_1197.1 (by decide) (fun _ => ?_) (fun h => absurd rfl h)
  refine W.widen (k := 105 + cnt + 1) (n := 8020 + 6 * cnt + 6) (by omega) (by omega) ?_
  exact k n Y1 Y2 ν1 ν2 H1 locs1 ⟨hY1, hn, hY2, hw1, hw2, hdis, hO1, hO2, rfl, rfl, hInv⟩
theorem law_c32 {p : Program} {l : Launch} {e : Env} {s : State} {m : MethodId} {args : Array Value} {below : List Frame} {meth : Method} {c : Code} {H : Heap} {locs : List Loc} {ls : Array Slot} {Q : State → Prop} {Y1 Y2 : Lay} {μ1 μ2 : Mem} {b L x0 m0 cnt n : Nat} {xs : Nat → Int32} (S : CallFix p m c code 4 s args TT "TopYardLaw") (hX : va_X b L xs s s.heap) (hbl : b < s.heap.size) (hI : LI s x0 m0 cnt n Y1 Y2 μ1 μ2 H locs) (hc : cnt < 512) (hl : lv_has ls 4 [(3, .int (nI (6 * cnt))), (0, .ref b), (1, .ref x0), (2, .ref m0)]) (hij : 6 * cnt + 6 ≤ L) (hL : L ≤ 3072) (k : LN p l e s m args below meth c x0 m0 cnt Q ls) : WL p l e s m args below meth c H locs (105 + cnt) (8020 + 6 * cnt) Q (F0 m 1202 ls []) := by
  obtain ⟨hY1, hn, hY2, hw1, hw2, hdis, hO1, hO2, rfl, rfl, hInv⟩ := hI
  obtain ⟨r, ν1, ν2, e1, e2, hInv⟩ := s_wipe hInv hc
  refine lv_aload_n S.1 S.2.1 d_law_1202.1 rfl (lv_at hl 2 rfl) ?_
  refine l_call (a := 0) (As := []) (rest := []) S hO1 lk_L_146 (c_X_wipe hY1 e1) rfl (kX hY1 rfl) (nX hY1 (by decide)) (by decide) rfl rfl (by decide) hl.1 (by omega) (by omega) rfl (Nat.le_of_ble_eq_true rfl) d_law_1203 hw1 hw2 hdis (fun H1 locs1 hw1 hw2 => ?_)
  refine lv_aload_n S.1 S.2.1 d_law_1206.1 rfl (lv_at hl 3 rfl) ?_
  refine l_call (a := 0) (As := []) (rest := [.int r]) S hO2 lk_L_149 (c_M_wipe hY2 e2) rfl (kM hY2 rfl) (nM hY2 (by decide)) (by decide) rfl rfl (by decide) hl.1 (by omega) (by omega) rfl (Nat.le_of_ble_eq_true rfl) d_law_1207 hw2 hw1 (fun a b ha hb h => hdis b a hb ha h.symm) (fun H1 locs1 hw2 hw1 => ?_)
  refine lv_icmp_eq (tgt := 1688) S.1 S.2.1 d_law_1210.1 (by decide) (fun _ => ?_) (fun h => absurd rfl h)
  refine W.widen (k := 105 + cnt + 1) (n := 8020 + 6 * cnt + 6) (by omega) (by omega) ?_
  exact k n Y1 Y2 ν1 ν2 H1 locs1 ⟨hY1, hn, hY2, hw1, hw2, hdis, hO1, hO2, rfl, rfl, hInv⟩
theorem law_c33 {p : Program} {l : Launch} {e : Env} {s : State} {m : MethodId} {args : Array Value} {below : List Frame} {meth : Method} {c : Code} {H : Heap} {locs : List Loc} {ls : Array Slot} {Q : State → Prop} {Y1 Y2 : Lay} {μ1 μ2 : Mem} {b L x0 m0 cnt n : Nat} {xs : Nat → Int32} (S : CallFix p m c code 4 s args TT "TopYardLaw") (hX : va_X b L xs s s.heap) (hbl : b < s.heap.size) (hI : LI s x0 m0 cnt n Y1 Y2 μ1 μ2 H locs) (hc : cnt < 512) (hl : lv_has ls 4 [(3, .int (nI (6 * cnt))), (0, .ref b), (1, .ref x0), (2, .ref m0)]) (hij : 6 * cnt + 6 ≤ L) (hL : L ≤ 3072) (k : LN p l e s m args below meth c x0 m0 cnt Q ls) : WL p l e s m args below meth c H locs (105 + cnt) (8020 + 6 * cnt) Q (F0 m 1215 ls []) := by
  obtain ⟨hY1, hn, hY2, hw1, hw2, hdis, hO1, hO2, rfl, rfl, hInv⟩ := hI
  obtain ⟨r, ν1, ν2, e1, e2, hInv⟩ := s_fault hInv hc
  refine lv_aload_n S.1 S.2.1 d_law_1215.1 rfl (lv_at hl 2 rfl) ?_
  refine l_call (a := 0) (As := []) (rest := []) S hO1 lk_L_150 (c_X_fault hY1 e1) rfl (kX hY1 rfl) (nX hY1 (by decide)) (by decide) rfl rfl (by decide) hl.1 (by omega) (by omega) rfl (Nat.le_of_ble_eq_true rfl) d_law_1216 hw1 hw2 hdis (fun H1 locs1 hw1 hw2 => ?_)
  refine lv_aload_n S.1 S.2.1 d_law_1219.1 rfl (lv_at hl 3 rfl) ?_
  refine l_call (a := 0) (As := []) (rest := [.int r]) S hO2 lk_L_153 (c_M_fault hY2 e2) rfl (kM hY2 rfl) (nM hY2 (by decide)) (by decide) rfl rfl (by decide) hl.1 (by omega) (by omega) rfl (Nat.le_of_ble_eq_true rfl) d_law_1220 hw2 hw1 (fun a b ha hb h => hdis b a hb ha h.symm) (fun H1 locs1 hw2 hw1 => ?_)
  refine lv_icmp_eq (tgt := 1688) S.1 S.2.1 d_law_1223.1 (by decide) (fun _ => ?_) (fun h => absurd rfl h)
  refine W.widen (k := 105 + cnt + 1) (n := 8020 + 6 * cnt + 6) (by omega) (by omega) ?_
  exact k n Y1 Y2 ν1 ν2 H1 locs1 ⟨hY1, hn, hY2, hw1, hw2, hdis, hO1, hO2, rfl, rfl, hInv⟩
theorem law_c34 {p : Program} {l : Launch} {e : Env} {s : State} {m : MethodId} {args : Array Value} {below : List Frame} {meth : Method} {c : Code} {H : Heap} {locs : List Loc} {ls : Array Slot} {Q : State → Prop} {Y1 Y2 : Lay} {μ1 μ2 : Mem} {b L x0 m0 cnt n : Nat} {xs : Nat → Int32} (S : CallFix p m c code 4 s args TT "TopYardLaw") (hX : va_X b L xs s s.heap) (hbl : b < s.heap.size) (hI : LI s x0 m0 cnt n Y1 Y2 μ1 μ2 H locs) (hc : cnt < 512) (hl : lv_has ls 4 [(3, .int (nI (6 * cnt))), (0, .ref b), (1, .ref x0), (2, .ref m0)]) (hij : 6 * cnt + 6 ≤ L) (hL : L ≤ 3072) (k : LN p l e s m args below meth c x0 m0 cnt Q ls) : WL p l e s m args below meth c H locs (105 + cnt) (8020 + 6 * cnt) Q (F0 m 1228 ls []) := by
  obtain ⟨hY1, hn, hY2, hw1, hw2, hdis, hO1, hO2, rfl, rfl, hInv⟩ := hI
  obtain ⟨r, ν1, ν2, e1, e2, hInv⟩ := s_play hInv hc (xs (6 * cnt + 1)) (xs (6 * cnt + 2))
  refine lv_aload_n S.1 S.2.1 d_law_1228.1 rfl (lv_at hl 2 rfl) ?_
  refine l_arg S hX hbl hw1.2.2.2.1 hl 1 0 rfl rfl (j := 1) (by decide) (by omega) (by omega) d_law_1229 d_law_1230 d_law_1231 d_law_1232 d_law_1233 ?_
  refine l_arg S hX hbl hw1.2.2.2.1 hl 1 0 rfl rfl (j := 2) (by decide) (by omega) (by omega) d_law_1234 d_law_1235 d_law_1236 d_law_1237 d_law_1238 ?_
  refine l_call (a := 0) (As := [.int (xs (6 * cnt + 1)), .int (xs (6 * cnt + 2))]) (rest := []) S hO1 lk_L_154 (c_X_play hY1 e1) rfl (kX hY1 rfl) (nX hY1 (by decide)) (by decide) rfl rfl (by decide) hl.1 (by omega) (by omega) rfl (Nat.le_of_ble_eq_true rfl) d_law_1239 hw1 hw2 hdis (fun H1 locs1 hw1 hw2 => ?_)
  refine lv_aload_n S.1 S.2.1 d_law_1242.1 rfl (lv_at hl 3 rfl) ?_
  refine l_arg S hX hbl hw1.2.2.2.1 hl 1 0 rfl rfl (j := 1) (by decide) (by omega) (by omega) d_law_1243 d_law_1244 d_law_1245 d_law_1246 d_law_1247 ?_
  refine l_arg S hX hbl hw1.2.2.2.1 hl 1 0 rfl rfl (j := 2) (by decide) (by omega) (by omega) d_law_1248 d_law_1249 d_law_1250 d_law_1251 d_law_1252 ?_
  refine l_call (a := 0) (As := [.int (xs (6 * cnt + 1)), .int (xs (6 * cnt + 2))]) (rest := [.int r]) S hO2 lk_L_157 (c_M_play hY2 e2) rfl (kM hY2 rfl) (nM hY2 (by decide)) (by decide) rfl rfl (by decide) hl.1 (by omega) (by omega) rfl (Nat.le_of_ble_eq_true rfl) d_law_1253 hw2 hw1 (fun a b ha hb h => hdis b a hb ha h.symm) (fun H1 locs1 hw2 hw1 => ?_)
  refine lv_icmp_eq (tgt := 1688) S.1 S.2.1 d_law_1256.1 (by decide) (fun _ => ?_) (fun h => absurd rfl h)
  refine W.widen (k := 105 + cnt + 1) (n := 8020 + 6 * cnt + 6) (by omega) (by omega) ?_
  exact k n Y1 Y2 ν1 ν2 H1 locs1 ⟨hY1, hn, hY2, hw1, hw2, hdis, hO1, hO2, rfl, rfl, hInv⟩
theorem law_c35 {p : Program} {l : Launch} {e : Env} {s : State} {m : MethodId} {args : Array Value} {below : List Frame} {meth : Method} {c : Code} {H : Heap} {locs : List Loc} {ls : Array Slot} {Q : State → Prop} {Y1 Y2 : Lay} {μ1 μ2 : Mem} {b L x0 m0 cnt n : Nat} {xs : Nat → Int32} (S : CallFix p m c code 4 s args TT "TopYardLaw") (hX : va_X b L xs s s.heap) (hbl : b < s.heap.size) (hI : LI s x0 m0 cnt n Y1 Y2 μ1 μ2 H locs) (hc : cnt < 512) (hl : lv_has ls 4 [(3, .int (nI (6 * cnt))), (0, .ref b), (1, .ref x0), (2, .ref m0)]) (hij : 6 * cnt + 6 ≤ L) (hL : L ≤ 3072) (k : LN p l e s m args below meth c x0 m0 cnt Q ls) : WL p l e s m args below meth c H locs (105 + cnt) (8020 + 6 * cnt) Q (F0 m 1261 ls []) := by
  obtain ⟨hY1, hn, hY2, hw1, hw2, hdis, hO1, hO2, rfl, rfl, hInv⟩ := hI
  obtain ⟨r, e1, e2, hInv⟩ := s_played hInv hc (xs (6 * cnt + 1))
  refine lv_aload_n S.1 S.2.1 d_law_1261.1 rfl (lv_at hl 2 rfl) ?_
  refine l_arg S hX hbl hw1.2.2.2.1 hl 1 0 rfl rfl (j := 1) (by decide) (by omega) (by omega) d_law_1262 d_law_1263 d_law_1264 d_law_1265 d_law_1266 ?_
  refine l_call (a := 0) (As := [.int (xs (6 * cnt + 1))]) (rest := []) S hO1 lk_L_158 (c_X_played hY1 e1) rfl (kX hY1 rfl) (nX hY1 (by decide)) (by decide) rfl rfl (by decide) hl.1 (by omega) (by omega) rfl (Nat.le_of_ble_eq_true rfl) d_law_1267 hw1 hw2 hdis (fun H1 locs1 hw1 hw2 => ?_)
  refine lv_aload_n S.1 S.2.1 d_law_1270.1 rfl (lv_at hl 3 rfl) ?_
  refine l_arg S hX hbl hw1.2.2.2.1 hl 1 0 rfl rfl (j := 1) (by decide) (by omega) (by omega) d_law_1271 d_law_1272 d_law_1273 d_law_1274 d_law_1275 ?_
  refine l_call (a := 0) (As := [.int (xs (6 * cnt + 1))]) (rest := [.int r]) S hO2 lk_L_161 (c_M_played hY2 e2) rfl (kM hY2 rfl) (nM hY2 (by decide)) (by decide) rfl rfl (by decide) hl.1 (by omega) (by omega) rfl (Nat.le_of_ble_eq_true rfl) d_law_1276 hw2 hw1 (fun a b ha hb h => hdis b a hb ha h.symm) (fun H1 locs1 hw2 hw1 => ?_)
  refine lv_icmp_eq (tgt := 1688) S.1 S.2.1 d_law_1279.1 (by decide) (fun _ => ?_) (fun h => absurd rfl h)
  refine W.widen (k := 105 + cnt + 1) (n := 8020 + 6 * cnt + 6) (by omega) (by omega) ?_
  exact k n Y1 Y2 μ1 μ2 H1 locs1 ⟨hY1, hn, hY2, hw1, hw2, hdis, hO1, hO2, rfl, rfl, hInv⟩
theorem law_c36 {p : Program} {l : Launch} {e : Env} {s : State} {m : MethodId} {args : Array Value} {below : List Frame} {meth : Method} {c : Code} {H : Heap} {locs : List Loc} {ls : Array Slot} {Q : State → Prop} {Y1 Y2 : Lay} {μ1 μ2 : Mem} {b L x0 m0 cnt n : Nat} {xs : Nat → Int32} (S : CallFix p m c code 4 s args TT "TopYardLaw") (hX : va_X b L xs s s.heap) (hbl : b < s.heap.size) (hI : LI s x0 m0 cnt n Y1 Y2 μ1 μ2 H locs) (hc : cnt < 512) (hl : lv_has ls 4 [(3, .int (nI (6 * cnt))), (0, .ref b), (1, .ref x0), (2, .ref m0)]) (hij : 6 * cnt + 6 ≤ L) (hL : L ≤ 3072) (k : LN p l e s m args below meth c x0 m0 cnt Q ls) : WL p l e s m args below meth c H locs (105 + cnt) (8020 + 6 * cnt) Q (F0 m 1284 ls []) := by
  obtain ⟨hY1, hn, hY2, hw1, hw2, hdis, hO1, hO2, rfl, rfl, hInv⟩ := hI
  obtain ⟨r, e1, e2, hInv⟩ := s_met hInv hc (xs (6 * cnt + 1)) (xs (6 * cnt + 2))
  refine lv_aload_n S.1 S.2.1 d_law_1284.1 rfl (lv_at hl 2 rfl) ?_
  refine l_arg S hX hbl hw1.2.2.2.1 hl 1 0 rfl rfl (j := 1) (by decide) (by omega) (by omega) d_law_1285 d_law_1286 d_law_1287 d_law_1288 d_law_1289 ?_
  refine l_arg S hX hbl hw1.2.2.2.1 hl 1 0 rfl rfl (j := 2) (by decide) (by omega) (by omega) d_law_1290 d_law_1291 d_law_1292 d_law_1293 d_law_1294 ?_
  refine l_call (a := 0) (As := [.int (xs (6 * cnt + 1)), .int (xs (6 * cnt + 2))]) (rest := []) S hO1 lk_L_162 (c_X_met hY1 e1) rfl (kX hY1 rfl) (nX hY1 (by decide)) (by decide) rfl rfl (by decide) hl.1 (by omega) (by omega) rfl (Nat.le_of_ble_eq_true rfl) d_law_1295 hw1 hw2 hdis (fun H1 locs1 hw1 hw2 => ?_)
  refine lv_aload_n S.1 S.2.1 d_law_1298.1 rfl (lv_at hl 3 rfl) ?_
  refine l_arg S hX hbl hw1.2.2.2.1 hl 1 0 rfl rfl (j := 1) (by decide) (by omega) (by omega) d_law_1299 d_law_1300 d_law_1301 d_law_1302 d_law_1303 ?_
  refine l_arg S hX hbl hw1.2.2.2.1 hl 1 0 rfl rfl (j := 2) (by decide) (by omega) (by omega) d_law_1304 d_law_1305 d_law_1306 d_law_1307 d_law_1308 ?_
  refine l_call (a := 0) (As := [.int (xs (6 * cnt + 1)), .int (xs (6 * cnt + 2))]) (rest := [.int r]) S hO2 lk_L_165 (c_M_met1 hY2 e2) rfl (kM hY2 rfl) (nM hY2 (by decide)) (by decide) rfl rfl (by decide) hl.1 (by omega) (by omega) rfl (Nat.le_of_ble_eq_true rfl) d_law_1309 hw2 hw1 (fun a b ha hb h => hdis b a hb ha h.symm) (fun H1 locs1 hw2 hw1 => ?_)
  refine lv_icmp_eq (tgt := 1688) S.1 S.2.1 d_law_1312.1 (by decide) (fun _ => ?_) (fun h => absurd rfl h)
  refine W.widen (k := 105 + cnt + 1) (n := 8020 + 6 * cnt + 6) (by omega) (by omega) ?_
  exact k n Y1 Y2 μ1 μ2 H1 locs1 ⟨hY1, hn, hY2, hw1, hw2, hdis, hO1, hO2, rfl, rfl, hInv⟩
theorem law_c37 {p : Program} {l : Launch} {e : Env} {s : State} {m : MethodId} {args : Array Value} {below : List Frame} {meth : Method} {c : Code} {H : Heap} {locs : List Loc} {ls : Array Slot} {Q : State → Prop} {Y1 Y2 : Lay} {μ1 μ2 : Mem} {b L x0 m0 cnt n : Nat} {xs : Nat → Int32} (S : CallFix p m c code 4 s args TT "TopYardLaw") (hX : va_X b L xs s s.heap) (hbl : b < s.heap.size) (hI : LI s x0 m0 cnt n Y1 Y2 μ1 μ2 H locs) (hc : cnt < 512) (hl : lv_has ls 4 [(3, .int (nI (6 * cnt))), (0, .ref b), (1, .ref x0), (2, .ref m0)]) (hij : 6 * cnt + 6 ≤ L) (hL : L ≤ 3072) (k : LN p l e s m args below meth c x0 m0 cnt Q ls) : WL p l e s m args below meth c H locs (105 + cnt) (8020 + 6 * cnt) Q (F0 m 1317 ls []) := by
  obtain ⟨hY1, hn, hY2, hw1, hw2, hdis, hO1, hO2, rfl, rfl, hInv⟩ := hI
  obtain ⟨r, ν2, e1, e2, hInv⟩ := s_pairing hInv hc (xs (6 * cnt + 1)) (xs (6 * cnt + 2))
  refine lv_aload_n S.1 S.2.1 d_law_1317.1 rfl (lv_at hl 2 rfl) ?_
  refine l_arg S hX hbl hw1.2.2.2.1 hl 1 0 rfl rfl (j := 1) (by decide) (by omega) (by omega) d_law_1318 d_law_1319 d_law_1320 d_law_1321 d_law_1322 ?_
  refine l_arg S hX hbl hw1.2.2.2.1 hl 1 0 rfl rfl (j := 2) (by decide) (by omega) (by omega) d_law_1323 d_law_1324 d_law_1325 d_law_1326 d_law_1327 ?_
  refine l_call (a := 0) (As := [.int (xs (6 * cnt + 1)), .int (xs (6 * cnt + 2))]) (rest := []) S hO1 lk_L_166 (c_X_pairing hY1 e1) rfl (kX hY1 rfl) (nX hY1 (by decide)) (by decide) rfl rfl (by decide) hl.1 (by omega) (by omega) rfl (Nat.le_of_ble_eq_true rfl) d_law_1328 hw1 hw2 hdis (fun H1 locs1 hw1 hw2 => ?_)
  refine lv_aload_n S.1 S.2.1 d_law_1331.1 rfl (lv_at hl 3 rfl) ?_
  refine l_arg S hX hbl hw1.2.2.2.1 hl 1 0 rfl rfl (j := 1) (by decide) (by omega) (by omega) d_law_1332 d_law_1333 d_law_1334 d_law_1335 d_law_1336 ?_
  refine l_arg S hX hbl hw1.2.2.2.1 hl 1 0 rfl rfl (j := 2) (by decide) (by omega) (by omega) d_law_1337 d_law_1338 d_law_1339 d_law_1340 d_law_1341 ?_
  refine l_call (a := 0) (As := [.int (xs (6 * cnt + 1)), .int (xs (6 * cnt + 2))]) (rest := [.int r]) S hO2 lk_L_169 (c_M_pairing hY2 e2) rfl (kM hY2 rfl) (nM hY2 (by decide)) (by decide) rfl rfl (by decide) hl.1 (by omega) (by omega) rfl (Nat.le_of_ble_eq_true rfl) d_law_1342 hw2 hw1 (fun a b ha hb h => hdis b a hb ha h.symm) (fun H1 locs1 hw2 hw1 => ?_)
  refine lv_icmp_eq (tgt := 1688) S.1 S.2.1 d_law_1345.1 (by decide) (fun _ => ?_) (fun h => absurd rfl h)
  refine W.widen (k := 105 + cnt + 1) (n := 8020 + 6 * cnt + 6) (by omega) (by omega) ?_
  exact k n Y1 Y2 μ1 ν2 H1 locs1 ⟨hY1, hn, hY2, hw1, hw2, hdis, hO1, hO2, rfl, rfl, hInv⟩
theorem law_c38 {p : Program} {l : Launch} {e : Env} {s : State} {m : MethodId} {args : Array Value} {below : List Frame} {meth : Method} {c : Code} {H : Heap} {locs : List Loc} {ls : Array Slot} {Q : State → Prop} {Y1 Y2 : Lay} {μ1 μ2 : Mem} {b L x0 m0 cnt n : Nat} {xs : Nat → Int32} (S : CallFix p m c code 4 s args TT "TopYardLaw") (hX : va_X b L xs s s.heap) (hbl : b < s.heap.size) (hI : LI s x0 m0 cnt n Y1 Y2 μ1 μ2 H locs) (hc : cnt < 512) (hl : lv_has ls 4 [(3, .int (nI (6 * cnt))), (0, .ref b), (1, .ref x0), (2, .ref m0)]) (hij : 6 * cnt + 6 ≤ L) (hL : L ≤ 3072) (k : LN p l e s m args below meth c x0 m0 cnt Q ls) : WL p l e s m args below meth c H locs (105 + cnt) (8020 + 6 * cnt) Q (F0 m 1350 ls []) := by
  obtain ⟨hY1, hn, hY2, hw1, hw2, hdis, hO1, hO2, rfl, rfl, hInv⟩ := hI
  obtain ⟨r, ν1, ν2, e1, e2, hInv⟩ := s_bag hInv hc (xs (6 * cnt + 1)) (xs (6 * cnt + 2)) (xs (6 * cnt + 3))
  refine lv_aload_n S.1 S.2.1 d_law_1350.1 rfl (lv_at hl 2 rfl) ?_
  refine l_arg S hX hbl hw1.2.2.2.1 hl 1 0 rfl rfl (j := 1) (by decide) (by omega) (by omega) d_law_1351 d_law_1352 d_law_1353 d_law_1354 d_law_1355 ?_
  refine l_arg S hX hbl hw1.2.2.2.1 hl 1 0 rfl rfl (j := 2) (by decide) (by omega) (by omega) d_law_1356 d_law_1357 d_law_1358 d_law_1359 d_law_1360 ?_
  refine l_arg S hX hbl hw1.2.2.2.1 hl 1 0 rfl rfl (j := 3) (by decide) (by omega) (by omega) d_law_1361 d_law_1362 d_law_1363 d_law_1364 d_law_1365 ?_
  refine l_call (a := 0) (As := [.int (xs (6 * cnt + 1)), .int (xs (6 * cnt + 2)), .int (xs (6 * cnt + 3))]) (rest := []) S hO1 lk_L_170 (c_X_bag hY1 e1) rfl (kX hY1 rfl) (nX hY1 (by decide)) (by decide) rfl rfl (by decide) hl.1 (by omega) (by omega) rfl (Nat.le_of_ble_eq_true rfl) d_law_1366 hw1 hw2 hdis (fun H1 locs1 hw1 hw2 => ?_)
  refine lv_aload_n S.1 S.2.1 d_law_1369.1 rfl (lv_at hl 3 rfl) ?_
  refine l_arg S hX hbl hw1.2.2.2.1 hl 1 0 rfl rfl (j := 1) (by decide) (by omega) (by omega) d_law_1370 d_law_1371 d_law_1372 d_law_1373 d_law_1374 ?_
  refine l_arg S hX hbl hw1.2.2.2.1 hl 1 0 rfl rfl (j := 2) (by decide) (by omega) (by omega) d_law_1375 d_law_1376 d_law_1377 d_law_1378 d_law_1379 ?_
  refine l_arg S hX hbl hw1.2.2.2.1 hl 1 0 rfl rfl (j := 3) (by decide) (by omega) (by omega) d_law_1380 d_law_1381 d_law_1382 d_law_1383 d_law_1384 ?_
  refine l_call (a := 0) (As := [.int (xs (6 * cnt + 1)), .int (xs (6 * cnt + 2)), .int (xs (6 * cnt + 3))]) (rest := [.int r]) S hO2 lk_L_173 (c_M_bag hY2 e2) rfl (kM hY2 rfl) (nM hY2 (by decide)) (by decide) rfl rfl (by decide) hl.1 (by omega) (by omega) rfl (Nat.le_of_ble_eq_true rfl) d_law_1385 hw2 hw1 (fun a b ha hb h => hdis b a hb ha h.symm) (fun H1 locs1 hw2 hw1 => ?_)
  refine lv_icmp_eq (tgt := 1688) S.1 S.2.1 d_law_1388.1 (by decide) (fun _ => ?_) (fun h => absurd rfl h)
  refine W.widen (k := 105 + cnt + 1) (n := 8020 + 6 * cnt + 6) (by omega) (by omega) ?_
  exact k n Y1 Y2 ν1 ν2 H1 locs1 ⟨hY1, hn, hY2, hw1, hw2, hdis, hO1, hO2, rfl, rfl, hInv⟩
theorem law_c39 {p : Program} {l : Launch} {e : Env} {s : State} {m : MethodId} {args : Array Value} {below : List Frame} {meth : Method} {c : Code} {H : Heap} {locs : List Loc} {ls : Array Slot} {Q : State → Prop} {Y1 Y2 : Lay} {μ1 μ2 : Mem} {b L x0 m0 cnt n : Nat} {xs : Nat → Int32} (S : CallFix p m c code 4 s args TT "TopYardLaw") (hX : va_X b L xs s s.heap) (hbl : b < s.heap.size) (hI : LI s x0 m0 cnt n Y1 Y2 μ1 μ2 H locs) (hc : cnt < 512) (hl : lv_has ls 4 [(3, .int (nI (6 * cnt))), (0, .ref b), (1, .ref x0), (2, .ref m0)]) (hij : 6 * cnt + 6 ≤ L) (hL : L ≤ 3072) (k : LN p l e s m args below meth c x0 m0 cnt Q ls) : WL p l e s m args below meth c H locs (105 + cnt) (8020 + 6 * cnt) Q (F0 m 1393 ls []) := by
  obtain ⟨hY1, hn, hY2, hw1, hw2, hdis, hO1, hO2, rfl, rfl, hInv⟩ := hI
  obtain ⟨r, ν1, ν2, e1, e2, hInv⟩ := s_sheet hInv hc (xs (6 * cnt + 1)) (xs (6 * cnt + 2)) (xs (6 * cnt + 3))
  refine lv_aload_n S.1 S.2.1 d_law_1393.1 rfl (lv_at hl 2 rfl) ?_
  refine l_arg S hX hbl hw1.2.2.2.1 hl 1 0 rfl rfl (j := 1) (by decide) (by omega) (by omega) d_law_1394 d_law_1395 d_law_1396 d_law_1397 d_law_1398 ?_
  refine l_arg S hX hbl hw1.2.2.2.1 hl 1 0 rfl rfl (j := 2) (by decide) (by omega) (by omega) d_law_1399 d_law_1400 d_law_1401 d_law_1402 d_law_1403 ?_
  refine l_arg S hX hbl hw1.2.2.2.1 hl 1 0 rfl rfl (j := 3) (by decide) (by omega) (by omega) d_law_1404 d_law_1405 d_law_1406 d_law_1407 d_law_1408 ?_
  refine l_call (a := 0) (As := [.int (xs (6 * cnt + 1)), .int (xs (6 * cnt + 2)), .int (xs (6 * cnt + 3))]) (rest := []) S hO1 lk_L_174 (c_X_sheet hY1 e1) rfl (kX hY1 rfl) (nX hY1 (by decide)) (by decide) rfl rfl (by decide) hl.1 (by omega) (by omega) rfl (Nat.le_of_ble_eq_true rfl) d_law_1409 hw1 hw2 hdis (fun H1 locs1 hw1 hw2 => ?_)
  refine lv_aload_n S.1 S.2.1 d_law_1412.1 rfl (lv_at hl 3 rfl) ?_
  refine l_arg S hX hbl hw1.2.2.2.1 hl 1 0 rfl rfl (j := 1) (by decide) (by omega) (by omega) d_law_1413 d_law_1414 d_law_1415 d_law_1416 d_law_1417 ?_
  refine l_arg S hX hbl hw1.2.2.2.1 hl 1 0 rfl rfl (j := 2) (by decide) (by omega) (by omega) d_law_1418 d_law_1419 d_law_1420 d_law_1421 d_law_1422 ?_
  refine l_arg S hX hbl hw1.2.2.2.1 hl 1 0 rfl rfl (j := 3) (by decide) (by omega) (by omega) d_law_1423 d_law_1424 d_law_1425 d_law_1426 d_law_1427 ?_
  refine l_call (a := 0) (As := [.int (xs (6 * cnt + 1)), .int (xs (6 * cnt + 2)), .int (xs (6 * cnt + 3))]) (rest := [.int r]) S hO2 lk_L_177 (c_M_sheet hY2 e2) rfl (kM hY2 rfl) (nM hY2 (by decide)) (by decide) rfl rfl (by decide) hl.1 (by omega) (by omega) rfl (Nat.le_of_ble_eq_true rfl) d_law_1428 hw2 hw1 (fun a b ha hb h => hdis b a hb ha h.symm) (fun H1 locs1 hw2 hw1 => ?_)
  refine lv_icmp_eq (tgt := 1688) S.1 S.2.1 d_law_1431.1 (by decide) (fun _ => ?_) (fun h => absurd rfl h)
  refine W.widen (k := 105 + cnt + 1) (n := 8020 + 6 * cnt + 6) (by omega) (by omega) ?_
  exact k n Y1 Y2 ν1 ν2 H1 locs1 ⟨hY1, hn, hY2, hw1, hw2, hdis, hO1, hO2, rfl, rfl, hInv⟩
theorem law_c40 {p : Program} {l : Launch} {e : Env} {s : State} {m : MethodId} {args : Array Value} {below : List Frame} {meth : Method} {c : Code} {H : Heap} {locs : List Loc} {ls : Array Slot} {Q : State → Prop} {Y1 Y2 : Lay} {μ1 μ2 : Mem} {b L x0 m0 cnt n : Nat} {xs : Nat → Int32} (S : CallFix p m c code 4 s args TT "TopYardLaw") (hX : va_X b L xs s s.heap) (hbl : b < s.heap.size) (hI : LI s x0 m0 cnt n Y1 Y2 μ1 μ2 H locs) (hc : cnt < 512) (hl : lv_has ls 4 [(3, .int (nI (6 * cnt))), (0, .ref b), (1, .ref x0), (2, .ref m0)]) (hij : 6 * cnt + 6 ≤ L) (hL : L ≤ 3072) (k : LN p l e s m args below meth c x0 m0 cnt Q ls) : WL p l e s m args below meth c H locs (105 + cnt) (8020 + 6 * cnt) Q (F0 m 1436 ls []) := by
  obtain ⟨hY1, hn, hY2, hw1, hw2, hdis, hO1, hO2, rfl, rfl, hInv⟩ := hI
  obtain ⟨r, ν1, ν2, e1, e2, hInv⟩ := s_lose hInv hc (xs (6 * cnt + 1))
  refine lv_aload_n S.1 S.2.1 d_law_1436.1 rfl (lv_at hl 2 rfl) ?_
  refine l_arg S hX hbl hw1.2.2.2.1 hl 1 0 rfl rfl (j := 1) (by decide) (by omega) (by omega) d_law_1437 d_law_1438 d_law_1439 d_law_1440 d_law_1441 ?_
  refine l_call (a := 0) (As := [.int (xs (6 * cnt + 1))]) (rest := []) S hO1 lk_L_178 (c_X_lose hY1 e1) rfl (kX hY1 rfl) (nX hY1 (by decide)) (by decide) rfl rfl (by decide) hl.1 (by omega) (by omega) rfl (Nat.le_of_ble_eq_true rfl) d_law_1442 hw1 hw2 hdis (fun H1 locs1 hw1 hw2 => ?_)
  refine lv_aload_n S.1 S.2.1 d_law_1445.1 rfl (lv_at hl 3 rfl) ?_
  refine l_arg S hX hbl hw1.2.2.2.1 hl 1 0 rfl rfl (j := 1) (by decide) (by omega) (by omega) d_law_1446 d_law_1447 d_law_1448 d_law_1449 d_law_1450 ?_
  refine l_call (a := 0) (As := [.int (xs (6 * cnt + 1))]) (rest := [.int r]) S hO2 lk_L_181 (c_M_lose hY2 e2) rfl (kM hY2 rfl) (nM hY2 (by decide)) (by decide) rfl rfl (by decide) hl.1 (by omega) (by omega) rfl (Nat.le_of_ble_eq_true rfl) d_law_1451 hw2 hw1 (fun a b ha hb h => hdis b a hb ha h.symm) (fun H1 locs1 hw2 hw1 => ?_)
  refine lv_icmp_eq (tgt := 1688) S.1 S.2.1 d_law_1454.1 (by decide) (fun _ => ?_) (fun h => absurd rfl h)
  refine W.widen (k := 105 + cnt + 1) (n := 8020 + 6 * cnt + 6) (by omega) (by omega) ?_
  exact k n Y1 Y2 ν1 ν2 H1 locs1 ⟨hY1, hn, hY2, hw1, hw2, hdis, hO1, hO2, rfl, rfl, hInv⟩
theorem law_c41 {p : Program} {l : Launch} {e : Env} {s : State} {m : MethodId} {args : Array Value} {below : List Frame} {meth : Method} {c : Code} {H : Heap} {locs : List Loc} {ls : Array Slot} {Q : State → Prop} {Y1 Y2 : Lay} {μ1 μ2 : Mem} {b L x0 m0 cnt n : Nat} {xs : Nat → Int32} (S : CallFix p m c code 4 s args TT "TopYardLaw") (hX : va_X b L xs s s.heap) (hbl : b < s.heap.size) (hI : LI s x0 m0 cnt n Y1 Y2 μ1 μ2 H locs) (hc : cnt < 512) (hl : lv_has ls 4 [(3, .int (nI (6 * cnt))), (0, .ref b), (1, .ref x0), (2, .ref m0)]) (hij : 6 * cnt + 6 ≤ L) (hL : L ≤ 3072) (k : LN p l e s m args below meth c x0 m0 cnt Q ls) : WL p l e s m args below meth c H locs (105 + cnt) (8020 + 6 * cnt) Q (F0 m 1459 ls []) := by
  obtain ⟨hY1, hn, hY2, hw1, hw2, hdis, hO1, hO2, rfl, rfl, hInv⟩ := hI
  obtain ⟨r, ν1, ν2, e1, e2, hInv⟩ := s_put hInv hc (xs (6 * cnt + 1)) (xs (6 * cnt + 2)) (xs (6 * cnt + 3)) (xs (6 * cnt + 4))
  refine lv_aload_n S.1 S.2.1 d_law_1459.1 rfl (lv_at hl 2 rfl) ?_
  refine l_arg S hX hbl hw1.2.2.2.1 hl 1 0 rfl rfl (j := 1) (by decide) (by omega) (by omega) d_law_1460 d_law_1461 d_law_1462 d_law_1463 d_law_1464 ?_
  refine l_arg S hX hbl hw1.2.2.2.1 hl 1 0 rfl rfl (j := 2) (by decide) (by omega) (by omega) d_law_1465 d_law_1466 d_law_1467 d_law_1468 d_law_1469 ?_
  refine l_arg S hX hbl hw1.2.2.2.1 hl 1 0 rfl rfl (j := 3) (by decide) (by omega) (by omega) d_law_1470 d_law_1471 d_law_1472 d_law_1473 d_law_1474 ?_
  refine l_arg S hX hbl hw1.2.2.2.1 hl 1 0 rfl rfl (j := 4) (by decide) (by omega) (by omega) d_law_1475 d_law_1476 d_law_1477 d_law_1478 d_law_1479 ?_
  refine l_call (a := 0) (As := [.int (xs (6 * cnt + 1)), .int (xs (6 * cnt + 2)), .int (xs (6 * cnt + 3)), .int (xs (6 * cnt + 4))]) (rest := []) S hO1 lk_L_182 (c_X_put hY1 e1) rfl (kX hY1 rfl) (nX hY1 (by decide)) (by decide) rfl rfl (by decide) hl.1 (by omega) (by omega) rfl (Nat.le_of_ble_eq_true rfl) d_law_1480 hw1 hw2 hdis (fun H1 locs1 hw1 hw2 => ?_)
  refine lv_aload_n S.1 S.2.1 d_law_1483.1 rfl (lv_at hl 3 rfl) ?_
  refine l_arg S hX hbl hw1.2.2.2.1 hl 1 0 rfl rfl (j := 1) (by decide) (by omega) (by omega) d_law_1484 d_law_1485 d_law_1486 d_law_1487 d_law_1488 ?_
  refine l_arg S hX hbl hw1.2.2.2.1 hl 1 0 rfl rfl (j := 2) (by decide) (by omega) (by omega) d_law_1489 d_law_1490 d_law_1491 d_law_1492 d_law_1493 ?_
  refine l_arg S hX hbl hw1.2.2.2.1 hl 1 0 rfl rfl (j := 3) (by decide) (by omega) (by omega) d_law_1494 d_law_1495 d_law_1496 d_law_1497 d_law_1498 ?_
  refine l_arg S hX hbl hw1.2.2.2.1 hl 1 0 rfl rfl (j := 4) (by decide) (by omega) (by omega) d_law_1499 d_law_1500 d_law_1501 d_law_1502 d_law_1503 ?_
  refine l_call (a := 0) (As := [.int (xs (6 * cnt + 1)), .int (xs (6 * cnt + 2)), .int (xs (6 * cnt + 3)), .int (xs (6 * cnt + 4))]) (rest := [.int r]) S hO2 lk_L_186 (c_M_put hY2 e2) rfl (kM hY2 rfl) (nM hY2 (by decide)) (by decide) rfl rfl (by decide) hl.1 (by omega) (by omega) rfl (Nat.le_of_ble_eq_true rfl) d_law_1504 hw2 hw1 (fun a b ha hb h => hdis b a hb ha h.symm) (fun H1 locs1 hw2 hw1 => ?_)
  refine lv_icmp_eq (tgt := 1688) S.1 S.2.1 d_law_1507.1 (by decide) (fun _ => ?_) (fun h => absurd rfl h)
  refine W.widen (k := 105 + cnt + 1) (n := 8020 + 6 * cnt + 6) (by omega) (by omega) ?_
  exact k n Y1 Y2 ν1 ν2 H1 locs1 ⟨hY1, hn, hY2, hw1, hw2, hdis, hO1, hO2, rfl, rfl, hInv⟩
theorem law_c42 {p : Program} {l : Launch} {e : Env} {s : State} {m : MethodId} {args : Array Value} {below : List Frame} {meth : Method} {c : Code} {H : Heap} {locs : List Loc} {ls : Array Slot} {Q : State → Prop} {Y1 Y2 : Lay} {μ1 μ2 : Mem} {b L x0 m0 cnt n : Nat} {xs : Nat → Int32} (S : CallFix p m c code 4 s args TT "TopYardLaw") (hX : va_X b L xs s s.heap) (hbl : b < s.heap.size) (hI : LI s x0 m0 cnt n Y1 Y2 μ1 μ2 H locs) (hc : cnt < 512) (hl : lv_has ls 4 [(3, .int (nI (6 * cnt))), (0, .ref b), (1, .ref x0), (2, .ref m0)]) (hij : 6 * cnt + 6 ≤ L) (hL : L ≤ 3072) (k : LN p l e s m args below meth c x0 m0 cnt Q ls) : WL p l e s m args below meth c H locs (105 + cnt) (8020 + 6 * cnt) Q (F0 m 1512 ls []) := by
  obtain ⟨hY1, hn, hY2, hw1, hw2, hdis, hO1, hO2, rfl, rfl, hInv⟩ := hI
  obtain ⟨r, ν1, ν2, e1, e2, hInv⟩ := s_get hInv hc (xs (6 * cnt + 1)) (xs (6 * cnt + 2)) (xs (6 * cnt + 3))
  refine lv_aload_n S.1 S.2.1 d_law_1512.1 rfl (lv_at hl 2 rfl) ?_
  refine l_arg S hX hbl hw1.2.2.2.1 hl 1 0 rfl rfl (j := 1) (by decide) (by omega) (by omega) d_law_1513 d_law_1514 d_law_1515 d_law_1516 d_law_1517 ?_
  refine l_arg S hX hbl hw1.2.2.2.1 hl 1 0 rfl rfl (j := 2) (by decide) (by omega) (by omega) d_law_1518 d_law_1519 d_law_1520 d_law_1521 d_law_1522 ?_
  refine l_arg S hX hbl hw1.2.2.2.1 hl 1 0 rfl rfl (j := 3) (by decide) (by omega) (by omega) d_law_1523 d_law_1524 d_law_1525 d_law_1526 d_law_1527 ?_
  refine l_call (a := 0) (As := [.int (xs (6 * cnt + 1)), .int (xs (6 * cnt + 2)), .int (xs (6 * cnt + 3))]) (rest := []) S hO1 lk_L_187 (c_X_get hY1 e1) rfl (kX hY1 rfl) (nX hY1 (by decide)) (by decide) rfl rfl (by decide) hl.1 (by omega) (by omega) rfl (Nat.le_of_ble_eq_true rfl) d_law_1528 hw1 hw2 hdis (fun H1 locs1 hw1 hw2 => ?_)
  refine lv_aload_n S.1 S.2.1 d_law_1531.1 rfl (lv_at hl 3 rfl) ?_
  refine l_arg S hX hbl hw1.2.2.2.1 hl 1 0 rfl rfl (j := 1) (by decide) (by omega) (by omega) d_law_1532 d_law_1533 d_law_1534 d_law_1535 d_law_1536 ?_
  refine l_arg S hX hbl hw1.2.2.2.1 hl 1 0 rfl rfl (j := 2) (by decide) (by omega) (by omega) d_law_1537 d_law_1538 d_law_1539 d_law_1540 d_law_1541 ?_
  refine l_arg S hX hbl hw1.2.2.2.1 hl 1 0 rfl rfl (j := 3) (by decide) (by omega) (by omega) d_law_1542 d_law_1543 d_law_1544 d_law_1545 d_law_1546 ?_
  refine l_call (a := 0) (As := [.int (xs (6 * cnt + 1)), .int (xs (6 * cnt + 2)), .int (xs (6 * cnt + 3))]) (rest := [.int r]) S hO2 lk_L_190 (c_M_get hY2 e2) rfl (kM hY2 rfl) (nM hY2 (by decide)) (by decide) rfl rfl (by decide) hl.1 (by omega) (by omega) rfl (Nat.le_of_ble_eq_true rfl) d_law_1547 hw2 hw1 (fun a b ha hb h => hdis b a hb ha h.symm) (fun H1 locs1 hw2 hw1 => ?_)
  refine lv_icmp_eq (tgt := 1688) S.1 S.2.1 d_law_1550.1 (by decide) (fun _ => ?_) (fun h => absurd rfl h)
  refine W.widen (k := 105 + cnt + 1) (n := 8020 + 6 * cnt + 6) (by omega) (by omega) ?_
  exact k n Y1 Y2 ν1 ν2 H1 locs1 ⟨hY1, hn, hY2, hw1, hw2, hdis, hO1, hO2, rfl, rfl, hInv⟩
theorem law_c43 {p : Program} {l : Launch} {e : Env} {s : State} {m : MethodId} {args : Array Value} {below : List Frame} {meth : Method} {c : Code} {H : Heap} {locs : List Loc} {ls : Array Slot} {Q : State → Prop} {Y1 Y2 : Lay} {μ1 μ2 : Mem} {b L x0 m0 cnt n : Nat} {xs : Nat → Int32} (S : CallFix p m c code 4 s args TT "TopYardLaw") (hX : va_X b L xs s s.heap) (hbl : b < s.heap.size) (hI : LI s x0 m0 cnt n Y1 Y2 μ1 μ2 H locs) (hc : cnt < 512) (hl : lv_has ls 4 [(3, .int (nI (6 * cnt))), (0, .ref b), (1, .ref x0), (2, .ref m0)]) (hij : 6 * cnt + 6 ≤ L) (hL : L ≤ 3072) (k : LN p l e s m args below meth c x0 m0 cnt Q ls) : WL p l e s m args below meth c H locs (105 + cnt) (8020 + 6 * cnt) Q (F0 m 1555 ls []) := by
  obtain ⟨hY1, hn, hY2, hw1, hw2, hdis, hO1, hO2, rfl, rfl, hInv⟩ := hI
  obtain ⟨r, ν1, ν2, e1, e2, hInv⟩ := s_copy hInv hc (xs (6 * cnt + 1)) (xs (6 * cnt + 2)) (xs (6 * cnt + 3)) (xs (6 * cnt + 4)) (xs (6 * cnt + 5))
  refine lv_aload_n S.1 S.2.1 d_law_1555.1 rfl (lv_at hl 2 rfl) ?_
  refine l_arg S hX hbl hw1.2.2.2.1 hl 1 0 rfl rfl (j := 1) (by decide) (by omega) (by omega) d_law_1556 d_law_1557 d_law_1558 d_law_1559 d_law_1560 ?_
  refine l_arg S hX hbl hw1.2.2.2.1 hl 1 0 rfl rfl (j := 2) (by decide) (by omega) (by omega) d_law_1561 d_law_1562 d_law_1563 d_law_1564 d_law_1565 ?_
  refine l_arg S hX hbl hw1.2.2.2.1 hl 1 0 rfl rfl (j := 3) (by decide) (by omega) (by omega) d_law_1566 d_law_1567 d_law_1568 d_law_1569 d_law_1570 ?_
  refine l_arg S hX hbl hw1.2.2.2.1 hl 1 0 rfl rfl (j := 4) (by decide) (by omega) (by omega) d_law_1571 d_law_1572 d_law_1573 d_law_1574 d_law_1575 ?_
  refine l_arg S hX hbl hw1.2.2.2.1 hl 1 0 rfl rfl (j := 5) (by decide) (by omega) (by omega) d_law_1576 d_law_1577 d_law_1578 d_law_1579 d_law_1580 ?_
  refine l_call (a := 0) (As := [.int (xs (6 * cnt + 1)), .int (xs (6 * cnt + 2)), .int (xs (6 * cnt + 3)), .int (xs (6 * cnt + 4)), .int (xs (6 * cnt + 5))]) (rest := []) S hO1 lk_L_191 (c_X_copy hY1 e1) rfl (kX hY1 rfl) (nX hY1 (by decide)) (by decide) rfl rfl (by decide) hl.1 (by omega) (by omega) rfl (Nat.le_of_ble_eq_true rfl) d_law_1581 hw1 hw2 hdis (fun H1 locs1 hw1 hw2 => ?_)
  refine lv_aload_n S.1 S.2.1 d_law_1584.1 rfl (lv_at hl 3 rfl) ?_
  refine l_arg S hX hbl hw1.2.2.2.1 hl 1 0 rfl rfl (j := 1) (by decide) (by omega) (by omega) d_law_1585 d_law_1586 d_law_1587 d_law_1588 d_law_1589 ?_
  refine l_arg S hX hbl hw1.2.2.2.1 hl 1 0 rfl rfl (j := 2) (by decide) (by omega) (by omega) d_law_1590 d_law_1591 d_law_1592 d_law_1593 d_law_1594 ?_
  refine l_arg S hX hbl hw1.2.2.2.1 hl 1 0 rfl rfl (j := 3) (by decide) (by omega) (by omega) d_law_1595 d_law_1596 d_law_1597 d_law_1598 d_law_1599 ?_
  refine l_arg S hX hbl hw1.2.2.2.1 hl 1 0 rfl rfl (j := 4) (by decide) (by omega) (by omega) d_law_1600 d_law_1601 d_law_1602 d_law_1603 d_law_1604 ?_
  refine l_arg S hX hbl hw1.2.2.2.1 hl 1 0 rfl rfl (j := 5) (by decide) (by omega) (by omega) d_law_1605 d_law_1606 d_law_1607 d_law_1608 d_law_1609 ?_
  refine l_call (a := 0) (As := [.int (xs (6 * cnt + 1)), .int (xs (6 * cnt + 2)), .int (xs (6 * cnt + 3)), .int (xs (6 * cnt + 4)), .int (xs (6 * cnt + 5))]) (rest := [.int r]) S hO2 lk_L_194 (c_M_copy hY2 e2) rfl (kM hY2 rfl) (nM hY2 (by decide)) (by decide) rfl rfl (by decide) hl.1 (by omega) (by omega) rfl (Nat.le_of_ble_eq_true rfl) d_law_1610 hw2 hw1 (fun a b ha hb h => hdis b a hb ha h.symm) (fun H1 locs1 hw2 hw1 => ?_)
  refine lv_icmp_eq (tgt := 1688) S.1 S.2.1 d_law_1613.1 (by decide) (fun _ => ?_) (fun h => absurd rfl h)
  refine W.widen (k := 105 + cnt + 1) (n := 8020 + 6 * cnt + 6) (by omega) (by omega) ?_
  exact k n Y1 Y2 ν1 ν2 H1 locs1 ⟨hY1, hn, hY2, hw1, hw2, hdis, hO1, hO2, rfl, rfl, hInv⟩
theorem law_c44 {p : Program} {l : Launch} {e : Env} {s : State} {m : MethodId} {args : Array Value} {below : List Frame} {meth : Method} {c : Code} {H : Heap} {locs : List Loc} {ls : Array Slot} {Q : State → Prop} {Y1 Y2 : Lay} {μ1 μ2 : Mem} {b L x0 m0 cnt n : Nat} {xs : Nat → Int32} (S : CallFix p m c code 4 s args TT "TopYardLaw") (hX : va_X b L xs s s.heap) (hbl : b < s.heap.size) (hI : LI s x0 m0 cnt n Y1 Y2 μ1 μ2 H locs) (hc : cnt < 512) (hl : lv_has ls 4 [(3, .int (nI (6 * cnt))), (0, .ref b), (1, .ref x0), (2, .ref m0)]) (hij : 6 * cnt + 6 ≤ L) (hL : L ≤ 3072) (k : LN p l e s m args below meth c x0 m0 cnt Q ls) : WL p l e s m args below meth c H locs (105 + cnt) (8020 + 6 * cnt) Q (F0 m 1618 ls []) := by
  obtain ⟨hY1, hn, hY2, hw1, hw2, hdis, hO1, hO2, rfl, rfl, hInv⟩ := hI
  obtain ⟨r, ν1, ν2, e1, e2, hInv⟩ := s_write hInv hc (xs (6 * cnt + 1)) (xs (6 * cnt + 2))
  refine lv_aload_n S.1 S.2.1 d_law_1618.1 rfl (lv_at hl 2 rfl) ?_
  refine l_arg S hX hbl hw1.2.2.2.1 hl 1 0 rfl rfl (j := 1) (by decide) (by omega) (by omega) d_law_1619 d_law_1620 d_law_1621 d_law_1622 d_law_1623 ?_
  refine l_arg S hX hbl hw1.2.2.2.1 hl 1 0 rfl rfl (j := 2) (by decide) (by omega) (by omega) d_law_1624 d_law_1625 d_law_1626 d_law_1627 d_law_1628 ?_
  refine l_call (a := 0) (As := [.int (xs (6 * cnt + 1)), .int (xs (6 * cnt + 2))]) (rest := []) S hO1 lk_L_195 (c_X_write hY1 e1) rfl (kX hY1 rfl) (nX hY1 (by decide)) (by decide) rfl rfl (by decide) hl.1 (by omega) (by omega) rfl (Nat.le_of_ble_eq_true rfl) d_law_1629 hw1 hw2 hdis (fun H1 locs1 hw1 hw2 => ?_)
  refine lv_aload_n S.1 S.2.1 d_law_1632.1 rfl (lv_at hl 3 rfl) ?_
  refine l_arg S hX hbl hw1.2.2.2.1 hl 1 0 rfl rfl (j := 1) (by decide) (by omega) (by omega) d_law_1633 d_law_1634 d_law_1635 d_law_1636 d_law_1637 ?_
  refine l_arg S hX hbl hw1.2.2.2.1 hl 1 0 rfl rfl (j := 2) (by decide) (by omega) (by omega) d_law_1638 d_law_1639 d_law_1640 d_law_1641 d_law_1642 ?_
  refine l_call (a := 0) (As := [.int (xs (6 * cnt + 1)), .int (xs (6 * cnt + 2))]) (rest := [.int r]) S hO2 lk_L_198 (c_M_write hY2 e2) rfl (kM hY2 rfl) (nM hY2 (by decide)) (by decide) rfl rfl (by decide) hl.1 (by omega) (by omega) rfl (Nat.le_of_ble_eq_true rfl) d_law_1643 hw2 hw1 (fun a b ha hb h => hdis b a hb ha h.symm) (fun H1 locs1 hw2 hw1 => ?_)
  refine lv_icmp_eq (tgt := 1688) S.1 S.2.1 d_law_1646.1 (by decide) (fun _ => ?_) (fun h => absurd rfl h)
  refine W.widen (k := 105 + cnt + 1) (n := 8020 + 6 * cnt + 6) (by omega) (by omega) ?_
  exact k n Y1 Y2 ν1 ν2 H1 locs1 ⟨hY1, hn, hY2, hw1, hw2, hdis, hO1, hO2, rfl, rfl, hInv⟩
theorem law_c45 {p : Program} {l : Launch} {e : Env} {s : State} {m : MethodId} {args : Array Value} {below : List Frame} {meth : Method} {c : Code} {H : Heap} {locs : List Loc} {ls : Array Slot} {Q : State → Prop} {Y1 Y2 : Lay} {μ1 μ2 : Mem} {b L x0 m0 cnt n : Nat} {xs : Nat → Int32} (S : CallFix p m c code 4 s args TT "TopYardLaw") (hX : va_X b L xs s s.heap) (hbl : b < s.heap.size) (hI : LI s x0 m0 cnt n Y1 Y2 μ1 μ2 H locs) (hc : cnt < 512) (hl : lv_has ls 4 [(3, .int (nI (6 * cnt))), (0, .ref b), (1, .ref x0), (2, .ref m0)]) (hij : 6 * cnt + 6 ≤ L) (hL : L ≤ 3072) (k : LN p l e s m args below meth c x0 m0 cnt Q ls) : WL p l e s m args below meth c H locs (105 + cnt) (8020 + 6 * cnt) Q (F0 m 1651 ls []) := by
  obtain ⟨hY1, hn, hY2, hw1, hw2, hdis, hO1, hO2, rfl, rfl, hInv⟩ := hI
  obtain ⟨r, e1, e2, hInv⟩ := s_count hInv hc (xs (6 * cnt + 1))
  refine lv_aload_n S.1 S.2.1 d_law_1651.1 rfl (lv_at hl 2 rfl) ?_
  refine l_arg S hX hbl hw1.2.2.2.1 hl 1 0 rfl rfl (j := 1) (by decide) (by omega) (by omega) d_law_1652 d_law_1653 d_law_1654 d_law_1655 d_law_1656 ?_
  refine l_call (a := 0) (As := [.int (xs (6 * cnt + 1))]) (rest := []) S hO1 lk_L_199 (c_X_count hY1 e1) rfl (kX hY1 rfl) (nX hY1 (by decide)) (by decide) rfl rfl (by decide) hl.1 (by omega) (by omega) rfl (Nat.le_of_ble_eq_true rfl) d_law_1657 hw1 hw2 hdis (fun H1 locs1 hw1 hw2 => ?_)
  refine lv_aload_n S.1 S.2.1 d_law_1660.1 rfl (lv_at hl 3 rfl) ?_
  refine l_arg S hX hbl hw1.2.2.2.1 hl 1 0 rfl rfl (j := 1) (by decide) (by omega) (by omega) d_law_1661 d_law_1662 d_law_1663 d_law_1664 d_law_1665 ?_
  refine l_call (a := 0) (As := [.int (xs (6 * cnt + 1))]) (rest := [.int r]) S hO2 lk_L_202 (c_M_count hY2 e2) rfl (kM hY2 rfl) (nM hY2 (by decide)) (by decide) rfl rfl (by decide) hl.1 (by omega) (by omega) rfl (Nat.le_of_ble_eq_true rfl) d_law_1666 hw2 hw1 (fun a b ha hb h => hdis b a hb ha h.symm) (fun H1 locs1 hw2 hw1 => ?_)
  refine lv_icmp_eq (tgt := 1688) S.1 S.2.1 d_law_1669.1 (by decide) (fun _ => ?_) (fun h => absurd rfl h)
  refine W.widen (k := 105 + cnt + 1) (n := 8020 + 6 * cnt + 6) (by omega) (by omega) ?_
  exact k n Y1 Y2 μ1 μ2 H1 locs1 ⟨hY1, hn, hY2, hw1, hw2, hdis, hO1, hO2, rfl, rfl, hInv⟩
theorem law_c46 {p : Program} {l : Launch} {e : Env} {s : State} {m : MethodId} {args : Array Value} {below : List Frame} {meth : Method} {c : Code} {H : Heap} {locs : List Loc} {ls : Array Slot} {Q : State → Prop} {Y1 Y2 : Lay} {μ1 μ2 : Mem} {b L x0 m0 cnt n : Nat} {xs : Nat → Int32} (S : CallFix p m c code 4 s args TT "TopYardLaw") (hX : va_X b L xs s s.heap) (hbl : b < s.heap.size) (hI : LI s x0 m0 cnt n Y1 Y2 μ1 μ2 H locs) (hc : cnt < 512) (hl : lv_has ls 4 [(3, .int (nI (6 * cnt))), (0, .ref b), (1, .ref x0), (2, .ref m0)]) (hij : 6 * cnt + 6 ≤ L) (hL : L ≤ 3072) (k : LN p l e s m args below meth c x0 m0 cnt Q ls) : WL p l e s m args below meth c H locs (105 + cnt) (8020 + 6 * cnt) Q (F0 m 1674 ls []) := by
  obtain ⟨hY1, hn, hY2, hw1, hw2, hdis, hO1, hO2, rfl, rfl, hInv⟩ := hI
  obtain ⟨r, ν1, ν2, e1, e2, hInv⟩ := s_digest hInv hc
  refine lv_aload_n S.1 S.2.1 d_law_1674.1 rfl (lv_at hl 2 rfl) ?_
  refine l_call (a := 0) (As := []) (rest := []) S hO1 lk_L_203 (c_X_digest hY1 e1) rfl (kX hY1 rfl) (nX hY1 (by decide)) (by decide) rfl rfl (by decide) hl.1 (by omega) (by omega) rfl (Nat.le_of_ble_eq_true rfl) d_law_1675 hw1 hw2 hdis (fun H1 locs1 hw1 hw2 => ?_)
  refine lv_aload_n S.1 S.2.1 d_law_1678.1 rfl (lv_at hl 3 rfl) ?_
  refine l_call (a := 0) (As := []) (rest := [.long r]) S hO2 lk_L_207 (c_M_digest hY2 e2) rfl (kM hY2 rfl) (nM hY2 (by decide)) (by decide) rfl rfl (by decide) hl.1 (by omega) (by omega) rfl (Nat.le_of_ble_eq_true rfl) d_law_1679 hw2 hw1 (fun a b ha hb h => hdis b a hb ha h.symm) (fun H1 locs1 hw2 hw1 => ?_)
  refine W.lcmp S.1 S.2.1 d_law_1682.1 ?_
  rw [show lg_cmp r r = 0 from (lg_cmp_eq r r).mpr rfl]
  refine lv_if_eq (tgt := 1688) S.1 S.2.1 d_law_1683.1 (by decide) (fun _ => ?_) (fun h => absurd rfl h)
  refine W.widen (k := 105 + cnt + 1) (n := 8020 + 6 * cnt + 6) (by omega) (by omega) ?_
  exact k n Y1 Y2 ν1 ν2 H1 locs1 ⟨hY1, hn, hY2, hw1, hw2, hdis, hO1, hO2, rfl, rfl, hInv⟩
theorem law_loop {p : Program} {l : Launch} {e : Env} {s : State} {m : MethodId} {below : List Frame} {meth : Method} {c : Code} {b L x0 m0 : Nat} {xs : Nat → Int32} (S : CallFix p m c code 4 s #[Value.ref b] TT "TopYardLaw") (hr : meth.sig.returnType = ret) (hlocks : meth.locks = false) (hX : va_X b L xs s s.heap) (hbl : b < s.heap.size) (hL : L ≤ 3072) : ∀ (k cnt n : Nat) (Y1 Y2 : Lay) (μ1 μ2 : Mem) (H : Heap) (locs : List Loc) (ls : Array Slot), cnt + k = 513 → LI s x0 m0 cnt n Y1 Y2 μ1 μ2 H locs → cnt ≤ 512 → lv_has ls 4 [(3, .int (nI (6 * cnt))), (0, .ref b), (1, .ref x0), (2, .ref m0)] → WL p l e s m #[Value.ref b] below meth c H locs (105 + cnt) (8020 + 6 * cnt) (lw_Z below #[Value.ref b] s) (F0 m 18 ls []) := by
  intro k
  induction k with
  | zero => intro cnt n Y1 Y2 μ1 μ2 H locs ls h0 hI h1; omega
  | succ k ih =>
    intro cnt n Y1 Y2 μ1 μ2 H locs ls h0 hI h1 hl
    have hS := hI.2.2.2.1.2.2.2.1
    refine lv_iload_n S.1 S.2.1 d_law_18.1 rfl (lv_at hl 0 rfl) ?_
    refine lv_aload_n S.1 S.2.1 d_law_19.1 rfl (lv_at hl 1 rfl) ?_
    refine va_slen S.1 S.2.1 hX hbl (show ¬ AL s b from Nat.not_le.mpr hbl) hS d_law_20.1 ?_
    refine lv_bipush (v := 6) S.1 S.2.1 d_law_21.1 (by decide) ?_
    refine lv_isub S.1 S.2.1 d_law_23.1 ?_
    have hcmp : (nI L - 6 < nI (6 * cnt)) ↔ L < 6 * cnt + 6 := by
      have e1 : (nI L - nI 6).toInt = (L : Int) - (6 : Nat) := pk_sub_toInt (by omega) (by omega)
      rw [Int32.lt_iff_toInt_lt, show (6 : Int32) = nI 6 from rfl, e1, nI_toInt (by omega)]
      omega
    refine lv_icmp_gt (tgt := 1694) S.1 S.2.1 d_law_24.1 (by decide) (fun hx => ?_) (fun hx => ?_)
    · refine lv_iconst (v := 1) S.1 S.2.1 d_law_1694.1 (by decide) ?_
      refine va_forget (fun q hq => hS.2.2 q hq) ?_
      refine W.widen (k := 600000) (n := 7302250) (by omega) (by omega) ?_
      exact lw_ret S.1 S.2.1 hr hlocks d_law_1695
    · have hij : 6 * cnt + 6 ≤ L := by
        rcases Nat.lt_or_ge L (6 * cnt + 6) with q | q
        · exact absurd (hcmp.mpr q) hx
        · exact q
      have hc : cnt < 512 := by omega
      have kk : LN p l e s m #[Value.ref b] below meth c x0 m0 cnt (lw_Z below #[Value.ref b] s) ls := by
        intro n1 Z1 Z2 ν1 ν2 H1 locs1 hI1
        refine lv_iinc (v := nI (6 * (cnt + 1))) (lv' := [(3, .int (nI (6 * (cnt + 1)))), (0, .ref b), (1, .ref x0), (2, .ref m0)]) S.1 S.2.1 d_law_1688.1 hl (k := 0) rfl (by rw [show Int32.ofInt 6 = nI 6 from by decide, nI_add]; rfl) (by decide) rfl (fun ls1 hl1 => ?_)
        refine lv_goto (tgt := 18) S.1 S.2.1 d_law_1691.1 (by decide) ?_
        exact ih (cnt + 1) n1 Z1 Z2 ν1 ν2 H1 locs1 ls1 (by omega) hI1 (by omega) hl1
      refine lv_aload_n S.1 S.2.1 d_law_27.1 rfl (lv_at hl 1 rfl) ?_
      refine lv_iload_n S.1 S.2.1 d_law_28.1 rfl (lv_at hl 0 rfl) ?_
      refine va_sld S.1 S.2.1 hX hbl (show ¬ AL s b from Nat.not_le.mpr hbl) hS (vp_in_nI (by omega) (by omega)) d_law_29.1 ?_
      refine lv_bipush (v := 63) S.1 S.2.1 d_law_30.1 (by decide) ?_
      refine lv_iand S.1 S.2.1 d_law_32.1 ?_
      obtain ⟨j, hj, ej⟩ := pk_andE (xs (nI (6 * cnt)).toNatClampNeg) (m := 63) 6 (by decide)
      rw [ej]
      have hdef : 47 ≤ j → WL p l e s m #[Value.ref b] below meth c H locs (105 + cnt) (8020 + 6 * cnt) (lw_Z below #[Value.ref b] s) (F0 m 33 ls [.int (nI j)]) := by
        intro h47
        refine lv_tableOut (tgt := 1688) S.1 S.2.1 d_law_33 (Or.inr (by rw [nI_toInt (by omega)]; omega)) (by decide) ?_
        refine W.widen (k := 105 + cnt + 1) (n := 8020 + 6 * cnt + 6) (by omega) (by omega) ?_
        exact kk n Y1 Y2 μ1 μ2 H locs ⟨hI.1, hI.2.1, hI.2.2.1, hI.2.2.2.1, hI.2.2.2.2.1, hI.2.2.2.2.2.1, hI.2.2.2.2.2.2.1, hI.2.2.2.2.2.2.2.1, hI.2.2.2.2.2.2.2.2.1, hI.2.2.2.2.2.2.2.2.2.1, Inv_next hI.2.2.2.2.2.2.2.2.2.2⟩
      match j, hj, hdef with
      | 0, _, _ => exact lv_tableIn (tgt := 236) (off := 203) S.1 S.2.1 d_law_33 (by decide) (by decide) (by decide) (by decide) (law_c0 S hX hbl hI hc hl hij hL kk)
      | 1, _, _ => exact lv_tableIn (tgt := 269) (off := 236) S.1 S.2.1 d_law_33 (by decide) (by decide) (by decide) (by decide) (law_c1 S hX hbl hI hc hl hij hL kk)
      | 2, _, _ => exact lv_tableIn (tgt := 332) (off := 299) S.1 S.2.1 d_law_33 (by decide) (by decide) (by decide) (by decide) (law_c2 S hX hbl hI hc hl hij hL kk)
      | 3, _, _ => exact lv_tableIn (tgt := 365) (off := 332) S.1 S.2.1 d_law_33 (by decide) (by decide) (by decide) (by decide) (law_c3 S hX hbl hI hc hl hij hL kk)
      | 4, _, _ => exact lv_tableIn (tgt := 398) (off := 365) S.1 S.2.1 d_law_33 (by decide) (by decide) (by decide) (by decide) (law_c4 S hX hbl hI hc hl hij hL kk)
      | 5, _, _ => exact lv_tableIn (tgt := 431) (off := 398) S.1 S.2.1 d_law_33 (by decide) (by decide) (by decide) (by decide) (law_c5 S hX hbl hI hc hl hij hL kk)
      | 6, _, _ => exact lv_tableIn (tgt := 464) (off := 431) S.1 S.2.1 d_law_33 (by decide) (by decide) (by decide) (by decide) (law_c6 S hX hbl hI hc hl hij hL kk)
      | 7, _, _ => exact lv_tableIn (tgt := 507) (off := 474) S.1 S.2.1 d_law_33 (by decide) (by decide) (by decide) (by decide) (law_c7 S hX hbl hI hc hl hij hL kk)
      | 8, _, _ => exact lv_tableIn (tgt := 520) (off := 487) S.1 S.2.1 d_law_33 (by decide) (by decide) (by decide) (by decide) (law_c8 S hX hbl hI hc hl hij hL kk)
      | 9, _, _ => exact lv_tableIn (tgt := 563) (off := 530) S.1 S.2.1 d_law_33 (by decide) (by decide) (by decide) (by decide) (law_c9 S hX hbl hI hc hl hij hL kk)
      | 10, _, _ => exact lv_tableIn (tgt := 596) (off := 563) S.1 S.2.1 d_law_33 (by decide) (by decide) (by decide) (by decide) (law_c10 S hX hbl hI hc hl hij hL kk)
      | 11, _, _ => exact lv_tableIn (tgt := 659) (off := 626) S.1 S.2.1 d_law_33 (by decide) (by decide) (by decide) (by decide) (law_c11 S hX hbl hI hc hl hij hL kk)
      | 12, _, _ => exact lv_tableIn (tgt := 672) (off := 639) S.1 S.2.1 d_law_33 (by decide) (by decide) (by decide) (by decide) (law_c12 S hX hbl hI hc hl hij hL kk)
      | 13, _, _ => exact lv_tableIn (tgt := 715) (off := 682) S.1 S.2.1 d_law_33 (by decide) (by decide) (by decide) (by decide) (law_c13 S hX hbl hI hc hl hij hL kk)
      | 14, _, _ => exact lv_tableIn (tgt := 728) (off := 695) S.1 S.2.1 d_law_33 (by decide) (by decide) (by decide) (by decide) (law_c14 S hX hbl hI hc hl hij hL kk)
      | 15, _, _ => exact lv_tableIn (tgt := 741) (off := 708) S.1 S.2.1 d_law_33 (by decide) (by decide) (by decide) (by decide) (law_c15 S hX hbl hI hc hl hij hL kk)
      | 16, _, _ => exact lv_tableIn (tgt := 764) (off := 731) S.1 S.2.1 d_law_33 (by decide) (by decide) (by decide) (by decide) (law_c16 S hX hbl hI hc hl hij hL kk)
      | 17, _, _ => exact lv_tableIn (tgt := 807) (off := 774) S.1 S.2.1 d_law_33 (by decide) (by decide) (by decide) (by decide) (law_c17 S hX hbl hI hc hl hij hL kk)
      | 18, _, _ => exact lv_tableIn (tgt := 820) (off := 787) S.1 S.2.1 d_law_33 (by decide) (by decide) (by decide) (by decide) (law_c18 S hX hbl hI hc hl hij hL kk)
      | 19, _, _ => exact lv_tableIn (tgt := 853) (off := 820) S.1 S.2.1 d_law_33 (by decide) (by decide) (by decide) (by decide) (law_c19 S hX hbl hI hc hl hij hL kk)
      | 20, _, _ => exact lv_tableIn (tgt := 896) (off := 863) S.1 S.2.1 d_law_33 (by decide) (by decide) (by decide) (by decide) (law_c20 S hX hbl hI hc hl hij hL kk)
      | 21, _, _ => exact lv_tableIn (tgt := 929) (off := 896) S.1 S.2.1 d_law_33 (by decide) (by decide) (by decide) (by decide) (law_c21 S hX hbl hI hc hl hij hL kk)
      | 22, _, _ => exact lv_tableIn (tgt := 942) (off := 909) S.1 S.2.1 d_law_33 (by decide) (by decide) (by decide) (by decide) (law_c22 S hX hbl hI hc hl hij hL kk)
      | 23, _, _ => exact lv_tableIn (tgt := 955) (off := 922) S.1 S.2.1 d_law_33 (by decide) (by decide) (by decide) (by decide) (law_c23 S hX hbl hI hc hl hij hL kk)
      | 24, _, _ => exact lv_tableIn (tgt := 988) (off := 955) S.1 S.2.1 d_law_33 (by decide) (by decide) (by decide) (by decide) (law_c24 S hX hbl hI hc hl hij hL kk)
      | 25, _, _ => exact lv_tableIn (tgt := 1021) (off := 988) S.1 S.2.1 d_law_33 (by decide) (by decide) (by decide) (by decide) (law_c25 S hX hbl hI hc hl hij hL kk)
      | 26, _, _ => exact lv_tableIn (tgt := 1064) (off := 1031) S.1 S.2.1 d_law_33 (by decide) (by decide) (by decide) (by decide) (law_c26 S hX hbl hI hc hl hij hL kk)
      | 27, _, _ => exact lv_tableIn (tgt := 1077) (off := 1044) S.1 S.2.1 d_law_33 (by decide) (by decide) (by decide) (by decide) (law_c27 S hX hbl hI hc hl hij hL kk)
      | 28, _, _ => exact lv_tableIn (tgt := 1100) (off := 1067) S.1 S.2.1 d_law_33 (by decide) (by decide) (by decide) (by decide) (law_c28 S hX hbl hI hc hl hij hL kk)
      | 29, _, _ => exact lv_tableIn (tgt := 1133) (off := 1100) S.1 S.2.1 d_law_33 (by decide) (by decide) (by decide) (by decide) (law_c29 S hX hbl hI hc hl hij hL kk)
      | 30, _, _ => exact lv_tableIn (tgt := 1146) (off := 1113) S.1 S.2.1 d_law_33 (by decide) (by decide) (by decide) (by decide) (law_c30 S hX hbl hI hc hl hij hL kk)
      | 31, _, _ => exact lv_tableIn (tgt := 1179) (off := 1146) S.1 S.2.1 d_law_33 (by decide) (by decide) (by decide) (by decide) (law_c31 S hX hbl hI hc hl hij hL kk)
      | 32, _, _ => exact lv_tableIn (tgt := 1202) (off := 1169) S.1 S.2.1 d_law_33 (by decide) (by decide) (by decide) (by decide) (law_c32 S hX hbl hI hc hl hij hL kk)
      | 33, _, _ => exact lv_tableIn (tgt := 1215) (off := 1182) S.1 S.2.1 d_law_33 (by decide) (by decide) (by decide) (by decide) (law_c33 S hX hbl hI hc hl hij hL kk)
      | 34, _, _ => exact lv_tableIn (tgt := 1228) (off := 1195) S.1 S.2.1 d_law_33 (by decide) (by decide) (by decide) (by decide) (law_c34 S hX hbl hI hc hl hij hL kk)
      | 35, _, _ => exact lv_tableIn (tgt := 1261) (off := 1228) S.1 S.2.1 d_law_33 (by decide) (by decide) (by decide) (by decide) (law_c35 S hX hbl hI hc hl hij hL kk)
      | 36, _, _ => exact lv_tableIn (tgt := 1284) (off := 1251) S.1 S.2.1 d_law_33 (by decide) (by decide) (by decide) (by decide) (law_c36 S hX hbl hI hc hl hij hL kk)
      | 37, _, _ => exact lv_tableIn (tgt := 1317) (off := 1284) S.1 S.2.1 d_law_33 (by decide) (by decide) (by decide) (by decide) (law_c37 S hX hbl hI hc hl hij hL kk)
      | 38, _, _ => exact lv_tableIn (tgt := 1350) (off := 1317) S.1 S.2.1 d_law_33 (by decide) (by decide) (by decide) (by decide) (law_c38 S hX hbl hI hc hl hij hL kk)
      | 39, _, _ => exact lv_tableIn (tgt := 1393) (off := 1360) S.1 S.2.1 d_law_33 (by decide) (by decide) (by decide) (by decide) (law_c39 S hX hbl hI hc hl hij hL kk)
      | 40, _, _ => exact lv_tableIn (tgt := 1436) (off := 1403) S.1 S.2.1 d_law_33 (by decide) (by decide) (by decide) (by decide) (law_c40 S hX hbl hI hc hl hij hL kk)
      | 41, _, _ => exact lv_tableIn (tgt := 1459) (off := 1426) S.1 S.2.1 d_law_33 (by decide) (by decide) (by decide) (by decide) (law_c41 S hX hbl hI hc hl hij hL kk)
      | 42, _, _ => exact lv_tableIn (tgt := 1512) (off := 1479) S.1 S.2.1 d_law_33 (by decide) (by decide) (by decide) (by decide) (law_c42 S hX hbl hI hc hl hij hL kk)
      | 43, _, _ => exact lv_tableIn (tgt := 1555) (off := 1522) S.1 S.2.1 d_law_33 (by decide) (by decide) (by decide) (by decide) (law_c43 S hX hbl hI hc hl hij hL kk)
      | 44, _, _ => exact lv_tableIn (tgt := 1618) (off := 1585) S.1 S.2.1 d_law_33 (by decide) (by decide) (by decide) (by decide) (law_c44 S hX hbl hI hc hl hij hL kk)
      | 45, _, _ => exact lv_tableIn (tgt := 1651) (off := 1618) S.1 S.2.1 d_law_33 (by decide) (by decide) (by decide) (by decide) (law_c45 S hX hbl hI hc hl hij hL kk)
      | 46, _, _ => exact lv_tableIn (tgt := 1674) (off := 1641) S.1 S.2.1 d_law_33 (by decide) (by decide) (by decide) (by decide) (law_c46 S hX hbl hI hc hl hij hL kk)
      | j + 47, _, hdef => exact hdef (by omega)
