theorem dl_358 : decode code 358 = .ok (.if_icmp .eq 297, 3) := by decide +kernel
theorem dl_361 : decode code 361 = .ok (.iconst 0, 1) := by decide +kernel
theorem dl_362 : decode code 362 = .ok (.ireturn, 1) := by decide +kernel
theorem dl_363 : decode code 363 = .ok (.aload_n 1, 1) := by decide +kernel
theorem dl_364 : decode code 364 = .ok (.invokevirtual 52, 3) := by decide +kernel
theorem dl_367 : decode code 367 = .ok (.aload_n 2, 1) := by decide +kernel
theorem dl_368 : decode code 368 = .ok (.invokevirtual 55, 3) := by decide +kernel
theorem dl_371 : decode code 371 = .ok (.if_icmp .eq 284, 3) := by decide +kernel
theorem dl_374 : decode code 374 = .ok (.iconst 0, 1) := by decide +kernel
theorem dl_375 : decode code 375 = .ok (.ireturn, 1) := by decide +kernel
theorem dl_376 : decode code 376 = .ok (.aload_n 1, 1) := by decide +kernel
theorem dl_377 : decode code 377 = .ok (.invokevirtual 56, 3) := by decide +kernel
theorem dl_380 : decode code 380 = .ok (.aload_n 2, 1) := by decide +kernel
theorem dl_381 : decode code 381 = .ok (.invokevirtual 59, 3) := by decide +kernel
theorem dl_384 : decode code 384 = .ok (.if_icmp .eq 271, 3) := by decide +kernel
theorem dl_387 : decode code 387 = .ok (.iconst 0, 1) := by decide +kernel
theorem dl_388 : decode code 388 = .ok (.ireturn, 1) := by decide +kernel
theorem dl_389 : decode code 389 = .ok (.aload_n 1, 1) := by decide +kernel
theorem dl_390 : decode code 390 = .ok (.aload_n 0, 1) := by decide +kernel
theorem dl_391 : decode code 391 = .ok (.iload_n 3, 1) := by decide +kernel
theorem dl_392 : decode code 392 = .ok (.iconst 1, 1) := by decide +kernel
theorem dl_393 : decode code 393 = .ok (.iadd, 1) := by decide +kernel
theorem dl_394 : decode code 394 = .ok (.iaload, 1) := by decide +kernel
theorem dl_395 : decode code 395 = .ok (.invokevirtual 60, 3) := by decide +kernel
theorem dl_398 : decode code 398 = .ok (.aload_n 2, 1) := by decide +kernel
theorem dl_399 : decode code 399 = .ok (.aload_n 0, 1) := by decide +kernel
theorem dl_400 : decode code 400 = .ok (.iload_n 3, 1) := by decide +kernel
theorem dl_401 : decode code 401 = .ok (.iconst 1, 1) := by decide +kernel
theorem dl_402 : decode code 402 = .ok (.iadd, 1) := by decide +kernel
theorem dl_403 : decode code 403 = .ok (.iaload, 1) := by decide +kernel
theorem dl_404 : decode code 404 = .ok (.invokevirtual 63, 3) := by decide +kernel
theorem dl_407 : decode code 407 = .ok (.if_icmp .eq 248, 3) := by decide +kernel
theorem dl_410 : decode code 410 = .ok (.iconst 0, 1) := by decide +kernel
theorem dl_411 : decode code 411 = .ok (.ireturn, 1) := by decide +kernel
theorem dl_412 : decode code 412 = .ok (.aload_n 1, 1) := by decide +kernel
theorem dl_413 : decode code 413 = .ok (.aload_n 0, 1) := by decide +kernel
theorem dl_414 : decode code 414 = .ok (.iload_n 3, 1) := by decide +kernel
theorem dl_415 : decode code 415 = .ok (.iconst 1, 1) := by decide +kernel
theorem dl_416 : decode code 416 = .ok (.iadd, 1) := by decide +kernel
theorem dl_417 : decode code 417 = .ok (.iaload, 1) := by decide +kernel
theorem dl_418 : decode code 418 = .ok (.invokevirtual 64, 3) := by decide +kernel
theorem dl_421 : decode code 421 = .ok (.aload_n 2, 1) := by decide +kernel
theorem dl_422 : decode code 422 = .ok (.aload_n 0, 1) := by decide +kernel
theorem dl_423 : decode code 423 = .ok (.iload_n 3, 1) := by decide +kernel
theorem dl_424 : decode code 424 = .ok (.iconst 1, 1) := by decide +kernel
theorem dl_425 : decode code 425 = .ok (.iadd, 1) := by decide +kernel
theorem dl_426 : decode code 426 = .ok (.iaload, 1) := by decide +kernel
theorem dl_427 : decode code 427 = .ok (.invokevirtual 67, 3) := by decide +kernel
theorem dl_430 : decode code 430 = .ok (.if_icmp .eq 225, 3) := by decide +kernel
theorem dl_433 : decode code 433 = .ok (.iconst 0, 1) := by decide +kernel
theorem dl_434 : decode code 434 = .ok (.ireturn, 1) := by decide +kernel
theorem dl_435 : decode code 435 = .ok (.aload_n 1, 1) := by decide +kernel
theorem dl_436 : decode code 436 = .ok (.aload_n 0, 1) := by decide +kernel
theorem dl_437 : decode code 437 = .ok (.iload_n 3, 1) := by decide +kernel
theorem dl_438 : decode code 438 = .ok (.iconst 1, 1) := by decide +kernel
theorem dl_439 : decode code 439 = .ok (.iadd, 1) := by decide +kernel
theorem dl_440 : decode code 440 = .ok (.iaload, 1) := by decide +kernel
theorem dl_441 : decode code 441 = .ok (.aload_n 0, 1) := by decide +kernel
theorem dl_442 : decode code 442 = .ok (.iload_n 3, 1) := by decide +kernel
theorem dl_443 : decode code 443 = .ok (.iconst 2, 1) := by decide +kernel
