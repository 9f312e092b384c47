theorem dl_266 : decode code 266 = .ok (.iload_n 3, 1) := by decide +kernel
theorem dl_267 : decode code 267 = .ok (.iconst 1, 1) := by decide +kernel
theorem dl_268 : decode code 268 = .ok (.iadd, 1) := by decide +kernel
theorem dl_269 : decode code 269 = .ok (.iaload, 1) := by decide +kernel
theorem dl_270 : decode code 270 = .ok (.invokevirtual 31, 3) := by decide +kernel
theorem dl_273 : decode code 273 = .ok (.if_icmp .eq 382, 3) := by decide +kernel
theorem dl_276 : decode code 276 = .ok (.iconst 0, 1) := by decide +kernel
theorem dl_277 : decode code 277 = .ok (.ireturn, 1) := by decide +kernel
theorem dl_278 : decode code 278 = .ok (.aload_n 1, 1) := by decide +kernel
theorem dl_279 : decode code 279 = .ok (.invokevirtual 32, 3) := by decide +kernel
theorem dl_282 : decode code 282 = .ok (.aload_n 2, 1) := by decide +kernel
theorem dl_283 : decode code 283 = .ok (.invokevirtual 36, 3) := by decide +kernel
theorem dl_286 : decode code 286 = .ok (.if_icmp .eq 369, 3) := by decide +kernel
theorem dl_289 : decode code 289 = .ok (.iconst 0, 1) := by decide +kernel
theorem dl_290 : decode code 290 = .ok (.ireturn, 1) := by decide +kernel
theorem dl_291 : decode code 291 = .ok (.aload_n 1, 1) := by decide +kernel
theorem dl_292 : decode code 292 = .ok (.invokevirtual 37, 3) := by decide +kernel
theorem dl_295 : decode code 295 = .ok (.aload_n 2, 1) := by decide +kernel
theorem dl_296 : decode code 296 = .ok (.invokevirtual 40, 3) := by decide +kernel
theorem dl_299 : decode code 299 = .ok (.if_icmp .eq 356, 3) := by decide +kernel
theorem dl_302 : decode code 302 = .ok (.iconst 0, 1) := by decide +kernel
theorem dl_303 : decode code 303 = .ok (.ireturn, 1) := by decide +kernel
theorem dl_304 : decode code 304 = .ok (.aload_n 1, 1) := by decide +kernel
theorem dl_305 : decode code 305 = .ok (.invokevirtual 41, 3) := by decide +kernel
theorem dl_308 : decode code 308 = .ok (.aload_n 2, 1) := by decide +kernel
theorem dl_309 : decode code 309 = .ok (.invokevirtual 44, 3) := by decide +kernel
theorem dl_312 : decode code 312 = .ok (.if_icmp .eq 343, 3) := by decide +kernel
theorem dl_315 : decode code 315 = .ok (.iconst 0, 1) := by decide +kernel
theorem dl_316 : decode code 316 = .ok (.ireturn, 1) := by decide +kernel
theorem dl_317 : decode code 317 = .ok (.aload_n 1, 1) := by decide +kernel
theorem dl_318 : decode code 318 = .ok (.aload_n 0, 1) := by decide +kernel
theorem dl_319 : decode code 319 = .ok (.iload_n 3, 1) := by decide +kernel
theorem dl_320 : decode code 320 = .ok (.iconst 1, 1) := by decide +kernel
theorem dl_321 : decode code 321 = .ok (.iadd, 1) := by decide +kernel
theorem dl_322 : decode code 322 = .ok (.iaload, 1) := by decide +kernel
theorem dl_323 : decode code 323 = .ok (.invokevirtual 45, 3) := by decide +kernel
theorem dl_326 : decode code 326 = .ok (.aload_n 2, 1) := by decide +kernel
theorem dl_327 : decode code 327 = .ok (.aload_n 0, 1) := by decide +kernel
theorem dl_328 : decode code 328 = .ok (.iload_n 3, 1) := by decide +kernel
theorem dl_329 : decode code 329 = .ok (.iconst 1, 1) := by decide +kernel
theorem dl_330 : decode code 330 = .ok (.iadd, 1) := by decide +kernel
theorem dl_331 : decode code 331 = .ok (.iaload, 1) := by decide +kernel
theorem dl_332 : decode code 332 = .ok (.invokevirtual 47, 3) := by decide +kernel
theorem dl_335 : decode code 335 = .ok (.if_icmp .eq 320, 3) := by decide +kernel
theorem dl_338 : decode code 338 = .ok (.iconst 0, 1) := by decide +kernel
theorem dl_339 : decode code 339 = .ok (.ireturn, 1) := by decide +kernel
theorem dl_340 : decode code 340 = .ok (.aload_n 1, 1) := by decide +kernel
theorem dl_341 : decode code 341 = .ok (.aload_n 0, 1) := by decide +kernel
theorem dl_342 : decode code 342 = .ok (.iload_n 3, 1) := by decide +kernel
theorem dl_343 : decode code 343 = .ok (.iconst 1, 1) := by decide +kernel
theorem dl_344 : decode code 344 = .ok (.iadd, 1) := by decide +kernel
theorem dl_345 : decode code 345 = .ok (.iaload, 1) := by decide +kernel
theorem dl_346 : decode code 346 = .ok (.invokevirtual 48, 3) := by decide +kernel
theorem dl_349 : decode code 349 = .ok (.aload_n 2, 1) := by decide +kernel
theorem dl_350 : decode code 350 = .ok (.aload_n 0, 1) := by decide +kernel
theorem dl_351 : decode code 351 = .ok (.iload_n 3, 1) := by decide +kernel
theorem dl_352 : decode code 352 = .ok (.iconst 1, 1) := by decide +kernel
theorem dl_353 : decode code 353 = .ok (.iadd, 1) := by decide +kernel
theorem dl_354 : decode code 354 = .ok (.iaload, 1) := by decide +kernel
theorem dl_355 : decode code 355 = .ok (.invokevirtual 51, 3) := by decide +kernel
