theorem dL_edit_233 : decode cL_edit 233 = .ok (.if_icmp .ne 19, 3) := by decide +kernel
theorem dL_edit_236 : decode cL_edit 236 = .ok (.aload_n 0, 1) := by decide +kernel
theorem dL_edit_237 : decode cL_edit 237 = .ok (.iload 4, 2) := by decide +kernel
theorem dL_edit_239 : decode cL_edit 239 = .ok (.iload_n 3, 1) := by decide +kernel
theorem dL_edit_240 : decode cL_edit 240 = .ok (.bipush 11, 2) := by decide +kernel
theorem dL_edit_242 : decode cL_edit 242 = .ok (.ishr, 1) := by decide +kernel
theorem dL_edit_243 : decode cL_edit 243 = .ok (.bipush 8, 2) := by decide +kernel
theorem dL_edit_245 : decode cL_edit 245 = .ok (.invokestatic 18, 3) := by decide +kernel
theorem dL_edit_248 : decode cL_edit 248 = .ok (.invokevirtual 72, 3) := by decide +kernel
theorem dL_edit_251 : decode cL_edit 251 = .ok (.pop, 1) := by decide +kernel
theorem dL_edit_252 : decode cL_edit 252 = .ok (.aload_n 0, 1) := by decide +kernel
theorem dL_edit_253 : decode cL_edit 253 = .ok (.iload 4, 2) := by decide +kernel
theorem dL_edit_255 : decode cL_edit 255 = .ok (.iconst 0, 1) := by decide +kernel
theorem dL_edit_256 : decode cL_edit 256 = .ok (.invokevirtual 69, 3) := by decide +kernel
theorem dL_edit_259 : decode cL_edit 259 = .ok (.bipush 6, 2) := by decide +kernel
theorem dL_edit_261 : decode cL_edit 261 = .ok (.if_icmp .eq 108, 3) := by decide +kernel
theorem dL_edit_264 : decode cL_edit 264 = .ok (.aload_n 0, 1) := by decide +kernel
theorem dL_edit_265 : decode cL_edit 265 = .ok (.iload 4, 2) := by decide +kernel
theorem dL_edit_267 : decode cL_edit 267 = .ok (.iload 5, 2) := by decide +kernel
theorem dL_edit_269 : decode cL_edit 269 = .ok (.iload_n 3, 1) := by decide +kernel
theorem dL_edit_270 : decode cL_edit 270 = .ok (.iconst 4, 1) := by decide +kernel
theorem dL_edit_271 : decode cL_edit 271 = .ok (.ishr, 1) := by decide +kernel
theorem dL_edit_272 : decode cL_edit 272 = .ok (.iconst 2, 1) := by decide +kernel
theorem dL_edit_273 : decode cL_edit 273 = .ok (.invokestatic 18, 3) := by decide +kernel
theorem dL_edit_276 : decode cL_edit 276 = .ok (.iload_n 3, 1) := by decide +kernel
theorem dL_edit_277 : decode cL_edit 277 = .ok (.iconst 5, 1) := by decide +kernel
theorem dL_edit_278 : decode cL_edit 278 = .ok (.ishr, 1) := by decide +kernel
theorem dL_edit_279 : decode cL_edit 279 = .ok (.iconst 4, 1) := by decide +kernel
theorem dL_edit_280 : decode cL_edit 280 = .ok (.invokestatic 18, 3) := by decide +kernel
theorem dL_edit_283 : decode cL_edit 283 = .ok (.ifCond .le 7, 3) := by decide +kernel
theorem dL_edit_286 : decode cL_edit 286 = .ok (.iconst 1, 1) := by decide +kernel
theorem dL_edit_287 : decode cL_edit 287 = .ok (.goto 4, 3) := by decide +kernel
theorem dL_edit_290 : decode cL_edit 290 = .ok (.iconst 0, 1) := by decide +kernel
theorem dL_edit_291 : decode cL_edit 291 = .ok (.iload_n 2, 1) := by decide +kernel
theorem dL_edit_292 : decode cL_edit 292 = .ok (.bipush 7, 2) := by decide +kernel
theorem dL_edit_294 : decode cL_edit 294 = .ok (.ishr, 1) := by decide +kernel
theorem dL_edit_295 : decode cL_edit 295 = .ok (.bipush 31, 2) := by decide +kernel
theorem dL_edit_297 : decode cL_edit 297 = .ok (.invokestatic 18, 3) := by decide +kernel
theorem dL_edit_300 : decode cL_edit 300 = .ok (.bipush 15, 2) := by decide +kernel
theorem dL_edit_302 : decode cL_edit 302 = .ok (.isub, 1) := by decide +kernel
theorem dL_edit_303 : decode cL_edit 303 = .ok (.iload_n 3, 1) := by decide +kernel
theorem dL_edit_304 : decode cL_edit 304 = .ok (.bipush 7, 2) := by decide +kernel
theorem dL_edit_306 : decode cL_edit 306 = .ok (.ishr, 1) := by decide +kernel
theorem dL_edit_307 : decode cL_edit 307 = .ok (.bipush 10, 2) := by decide +kernel
theorem dL_edit_309 : decode cL_edit 309 = .ok (.invokestatic 18, 3) := by decide +kernel
theorem dL_edit_312 : decode cL_edit 312 = .ok (.iconst 2, 1) := by decide +kernel
theorem dL_edit_313 : decode cL_edit 313 = .ok (.isub, 1) := by decide +kernel
theorem dL_edit_314 : decode cL_edit 314 = .ok (.ifCond .ge 7, 3) := by decide +kernel
theorem dL_edit_317 : decode cL_edit 317 = .ok (.iconst (-1), 1) := by decide +kernel
theorem dL_edit_318 : decode cL_edit 318 = .ok (.goto 14, 3) := by decide +kernel
theorem dL_edit_321 : decode cL_edit 321 = .ok (.iload_n 3, 1) := by decide +kernel
theorem dL_edit_322 : decode cL_edit 322 = .ok (.bipush 7, 2) := by decide +kernel
theorem dL_edit_324 : decode cL_edit 324 = .ok (.ishr, 1) := by decide +kernel
theorem dL_edit_325 : decode cL_edit 325 = .ok (.bipush 10, 2) := by decide +kernel
theorem dL_edit_327 : decode cL_edit 327 = .ok (.invokestatic 18, 3) := by decide +kernel
theorem dL_edit_330 : decode cL_edit 330 = .ok (.iconst 2, 1) := by decide +kernel
theorem dL_edit_331 : decode cL_edit 331 = .ok (.isub, 1) := by decide +kernel
theorem dL_edit_332 : decode cL_edit 332 = .ok (.iload_n 3, 1) := by decide +kernel
theorem dL_edit_333 : decode cL_edit 333 = .ok (.bipush 10, 2) := by decide +kernel
theorem dL_edit_335 : decode cL_edit 335 = .ok (.ishr, 1) := by decide +kernel
theorem dL_edit_336 : decode cL_edit 336 = .ok (.bipush 14, 2) := by decide +kernel
theorem dL_edit_338 : decode cL_edit 338 = .ok (.invokestatic 18, 3) := by decide +kernel
theorem dL_edit_341 : decode cL_edit 341 = .ok (.bipush 6, 2) := by decide +kernel
theorem dL_edit_343 : decode cL_edit 343 = .ok (.isub, 1) := by decide +kernel
theorem dL_edit_344 : decode cL_edit 344 = .ok (.ifCond .ge 7, 3) := by decide +kernel
theorem dL_edit_347 : decode cL_edit 347 = .ok (.iconst (-1), 1) := by decide +kernel
theorem dL_edit_348 : decode cL_edit 348 = .ok (.goto 15, 3) := by decide +kernel
theorem dL_edit_351 : decode cL_edit 351 = .ok (.iload_n 3, 1) := by decide +kernel
theorem dL_edit_352 : decode cL_edit 352 = .ok (.bipush 10, 2) := by decide +kernel
theorem dL_edit_354 : decode cL_edit 354 = .ok (.ishr, 1) := by decide +kernel
theorem dL_edit_355 : decode cL_edit 355 = .ok (.bipush 14, 2) := by decide +kernel
theorem dL_edit_357 : decode cL_edit 357 = .ok (.invokestatic 18, 3) := by decide +kernel
theorem dL_edit_360 : decode cL_edit 360 = .ok (.bipush 6, 2) := by decide +kernel
theorem dL_edit_362 : decode cL_edit 362 = .ok (.isub, 1) := by decide +kernel
theorem dL_edit_363 : decode cL_edit 363 = .ok (.invokevirtual 83, 3) := by decide +kernel
theorem dL_edit_366 : decode cL_edit 366 = .ok (.ifCond .le 7, 3) := by decide +kernel
theorem dL_edit_369 : decode cL_edit 369 = .ok (.iconst 1, 1) := by decide +kernel
theorem dL_edit_370 : decode cL_edit 370 = .ok (.goto 4, 3) := by decide +kernel
theorem dL_edit_373 : decode cL_edit 373 = .ok (.iconst 0, 1) := by decide +kernel
theorem dL_edit_374 : decode cL_edit 374 = .ok (.ireturn, 1) := by decide +kernel
