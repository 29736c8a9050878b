/-! printed by wip/whole/tools/dec.py: the law -/
theorem d_La_law_227 : decode code 227 = .ok (.if_icmp .eq 506, 3) := by decide +kernel
theorem d_La_law_230 : decode code 230 = .ok (.iconst 0, 1) := by decide +kernel
theorem d_La_law_231 : decode code 231 = .ok (.ireturn, 1) := by decide +kernel
theorem d_La_law_232 : decode code 232 = .ok (.aload_n 1, 1) := by decide +kernel
theorem d_La_law_233 : decode code 233 = .ok (.aload_n 0, 1) := by decide +kernel
theorem d_La_law_234 : decode code 234 = .ok (.iload 4, 2) := by decide +kernel
theorem d_La_law_236 : decode code 236 = .ok (.iconst 1, 1) := by decide +kernel
theorem d_La_law_237 : decode code 237 = .ok (.iadd, 1) := by decide +kernel
theorem d_La_law_238 : decode code 238 = .ok (.iaload, 1) := by decide +kernel
theorem d_La_law_239 : decode code 239 = .ok (.aload_n 0, 1) := by decide +kernel
theorem d_La_law_240 : decode code 240 = .ok (.iload 4, 2) := by decide +kernel
theorem d_La_law_242 : decode code 242 = .ok (.iconst 2, 1) := by decide +kernel
theorem d_La_law_243 : decode code 243 = .ok (.iadd, 1) := by decide +kernel
theorem d_La_law_244 : decode code 244 = .ok (.iaload, 1) := by decide +kernel
theorem d_La_law_245 : decode code 245 = .ok (.invokevirtual 44, 3) := by decide +kernel
theorem d_La_law_248 : decode code 248 = .ok (.aload_n 2, 1) := by decide +kernel
theorem d_La_law_249 : decode code 249 = .ok (.aload_n 0, 1) := by decide +kernel
theorem d_La_law_250 : decode code 250 = .ok (.iload 4, 2) := by decide +kernel
theorem d_La_law_252 : decode code 252 = .ok (.iconst 1, 1) := by decide +kernel
theorem d_La_law_253 : decode code 253 = .ok (.iadd, 1) := by decide +kernel
theorem d_La_law_254 : decode code 254 = .ok (.iaload, 1) := by decide +kernel
theorem d_La_law_255 : decode code 255 = .ok (.aload_n 0, 1) := by decide +kernel
theorem d_La_law_256 : decode code 256 = .ok (.iload 4, 2) := by decide +kernel
theorem d_La_law_258 : decode code 258 = .ok (.iconst 2, 1) := by decide +kernel
theorem d_La_law_259 : decode code 259 = .ok (.iadd, 1) := by decide +kernel
theorem d_La_law_260 : decode code 260 = .ok (.iaload, 1) := by decide +kernel
theorem d_La_law_261 : decode code 261 = .ok (.invokevirtual 47, 3) := by decide +kernel
theorem d_La_law_264 : decode code 264 = .ok (.if_icmp .eq 469, 3) := by decide +kernel
theorem d_La_law_267 : decode code 267 = .ok (.iconst 0, 1) := by decide +kernel
theorem d_La_law_268 : decode code 268 = .ok (.ireturn, 1) := by decide +kernel
theorem d_La_law_269 : decode code 269 = .ok (.aload_n 1, 1) := by decide +kernel
theorem d_La_law_270 : decode code 270 = .ok (.invokevirtual 48, 3) := by decide +kernel
theorem d_La_law_273 : decode code 273 = .ok (.aload_n 2, 1) := by decide +kernel
theorem d_La_law_274 : decode code 274 = .ok (.invokevirtual 51, 3) := by decide +kernel
theorem d_La_law_277 : decode code 277 = .ok (.if_icmp .eq 456, 3) := by decide +kernel
theorem d_La_law_280 : decode code 280 = .ok (.iconst 0, 1) := by decide +kernel
theorem d_La_law_281 : decode code 281 = .ok (.ireturn, 1) := by decide +kernel
theorem d_La_law_282 : decode code 282 = .ok (.aload_n 1, 1) := by decide +kernel
theorem d_La_law_283 : decode code 283 = .ok (.invokevirtual 52, 3) := by decide +kernel
theorem d_La_law_286 : decode code 286 = .ok (.aload_n 2, 1) := by decide +kernel
theorem d_La_law_287 : decode code 287 = .ok (.invokevirtual 55, 3) := by decide +kernel
theorem d_La_law_290 : decode code 290 = .ok (.if_icmp .eq 443, 3) := by decide +kernel
theorem d_La_law_293 : decode code 293 = .ok (.iconst 0, 1) := by decide +kernel
theorem d_La_law_294 : decode code 294 = .ok (.ireturn, 1) := by decide +kernel
theorem d_La_law_295 : decode code 295 = .ok (.aload_n 1, 1) := by decide +kernel
theorem d_La_law_296 : decode code 296 = .ok (.aload_n 3, 1) := by decide +kernel
theorem d_La_law_297 : decode code 297 = .ok (.invokestatic 56, 3) := by decide +kernel
theorem d_La_law_300 : decode code 300 = .ok (.istore 5, 2) := by decide +kernel
theorem d_La_law_302 : decode code 302 = .ok (.aload_n 2, 1) := by decide +kernel
theorem d_La_law_303 : decode code 303 = .ok (.invokevirtual 61, 3) := by decide +kernel
theorem d_La_law_306 : decode code 306 = .ok (.istore 6, 2) := by decide +kernel
theorem d_La_law_308 : decode code 308 = .ok (.aload_n 2, 1) := by decide +kernel
theorem d_La_law_309 : decode code 309 = .ok (.invokevirtual 62, 3) := by decide +kernel
theorem d_La_law_312 : decode code 312 = .ok (.iload 5, 2) := by decide +kernel
theorem d_La_law_314 : decode code 314 = .ok (.if_icmp .eq 5, 3) := by decide +kernel
theorem d_La_law_317 : decode code 317 = .ok (.iconst 0, 1) := by decide +kernel
theorem d_La_law_318 : decode code 318 = .ok (.ireturn, 1) := by decide +kernel
theorem d_La_law_319 : decode code 319 = .ok (.iload 5, 2) := by decide +kernel
theorem d_La_law_321 : decode code 321 = .ok (.ifCond .ne 15, 3) := by decide +kernel
theorem d_La_law_324 : decode code 324 = .ok (.aload_n 3, 1) := by decide +kernel
theorem d_La_law_325 : decode code 325 = .ok (.iconst 0, 1) := by decide +kernel
theorem d_La_law_326 : decode code 326 = .ok (.laload, 1) := by decide +kernel
theorem d_La_law_327 : decode code 327 = .ok (.iload 6, 2) := by decide +kernel
theorem d_La_law_329 : decode code 329 = .ok (.i2l, 1) := by decide +kernel
theorem d_La_law_330 : decode code 330 = .ok (.lcmp, 1) := by decide +kernel
theorem d_La_law_331 : decode code 331 = .ok (.ifCond .eq 5, 3) := by decide +kernel
theorem d_La_law_334 : decode code 334 = .ok (.iconst 0, 1) := by decide +kernel
theorem d_La_law_335 : decode code 335 = .ok (.ireturn, 1) := by decide +kernel
theorem d_La_law_336 : decode code 336 = .ok (.goto 397, 3) := by decide +kernel
theorem d_La_law_339 : decode code 339 = .ok (.aload_n 1, 1) := by decide +kernel
theorem d_La_law_340 : decode code 340 = .ok (.aload_n 0, 1) := by decide +kernel
theorem d_La_law_341 : decode code 341 = .ok (.iload 4, 2) := by decide +kernel
theorem d_La_law_343 : decode code 343 = .ok (.iconst 1, 1) := by decide +kernel
theorem d_La_law_344 : decode code 344 = .ok (.iadd, 1) := by decide +kernel
theorem d_La_law_345 : decode code 345 = .ok (.iaload, 1) := by decide +kernel
theorem d_La_law_346 : decode code 346 = .ok (.aload_n 0, 1) := by decide +kernel
theorem d_La_law_347 : decode code 347 = .ok (.iload 4, 2) := by decide +kernel
theorem d_La_law_349 : decode code 349 = .ok (.iconst 2, 1) := by decide +kernel
theorem d_La_law_350 : decode code 350 = .ok (.iadd, 1) := by decide +kernel
theorem d_La_law_351 : decode code 351 = .ok (.iaload, 1) := by decide +kernel
theorem d_La_law_352 : decode code 352 = .ok (.aload_n 0, 1) := by decide +kernel
theorem d_La_law_353 : decode code 353 = .ok (.iload 4, 2) := by decide +kernel
theorem d_La_law_355 : decode code 355 = .ok (.iconst 3, 1) := by decide +kernel
theorem d_La_law_356 : decode code 356 = .ok (.iadd, 1) := by decide +kernel
theorem d_La_law_357 : decode code 357 = .ok (.iaload, 1) := by decide +kernel
theorem d_La_law_358 : decode code 358 = .ok (.aload_n 3, 1) := by decide +kernel
theorem d_La_law_359 : decode code 359 = .ok (.invokestatic 65, 3) := by decide +kernel
theorem d_La_law_362 : decode code 362 = .ok (.istore 5, 2) := by decide +kernel
theorem d_La_law_364 : decode code 364 = .ok (.aload_n 2, 1) := by decide +kernel
theorem d_La_law_365 : decode code 365 = .ok (.aload_n 0, 1) := by decide +kernel
theorem d_La_law_366 : decode code 366 = .ok (.iload 4, 2) := by decide +kernel
theorem d_La_law_368 : decode code 368 = .ok (.iconst 1, 1) := by decide +kernel
theorem d_La_law_369 : decode code 369 = .ok (.iadd, 1) := by decide +kernel
theorem d_La_law_370 : decode code 370 = .ok (.iaload, 1) := by decide +kernel
theorem d_La_law_371 : decode code 371 = .ok (.aload_n 0, 1) := by decide +kernel
theorem d_La_law_372 : decode code 372 = .ok (.iload 4, 2) := by decide +kernel
theorem d_La_law_374 : decode code 374 = .ok (.iconst 2, 1) := by decide +kernel
theorem d_La_law_375 : decode code 375 = .ok (.iadd, 1) := by decide +kernel
theorem d_La_law_376 : decode code 376 = .ok (.iaload, 1) := by decide +kernel
theorem d_La_law_377 : decode code 377 = .ok (.aload_n 0, 1) := by decide +kernel
