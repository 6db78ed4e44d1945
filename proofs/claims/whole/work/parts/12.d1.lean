theorem d_Law_law_224 : decode code 224 = .ok (.aload_n 1, 1) := by decide +kernel
theorem d_Law_law_225 : decode code 225 = .ok (.aload_n 0, 1) := by decide +kernel
theorem d_Law_law_226 : decode code 226 = .ok (.iload_n 3, 1) := by decide +kernel
theorem d_Law_law_227 : decode code 227 = .ok (.iconst 1, 1) := by decide +kernel
theorem d_Law_law_228 : decode code 228 = .ok (.iadd, 1) := by decide +kernel
theorem d_Law_law_229 : decode code 229 = .ok (.iaload, 1) := by decide +kernel
theorem d_Law_law_230 : decode code 230 = .ok (.aload_n 0, 1) := by decide +kernel
theorem d_Law_law_231 : decode code 231 = .ok (.iload_n 3, 1) := by decide +kernel
theorem d_Law_law_232 : decode code 232 = .ok (.iconst 2, 1) := by decide +kernel
theorem d_Law_law_233 : decode code 233 = .ok (.iadd, 1) := by decide +kernel
theorem d_Law_law_234 : decode code 234 = .ok (.iaload, 1) := by decide +kernel
theorem d_Law_law_235 : decode code 235 = .ok (.ifCond .eq (7), 3) := by decide +kernel
theorem d_Law_law_238 : decode code 238 = .ok (.iconst 1, 1) := by decide +kernel
theorem d_Law_law_239 : decode code 239 = .ok (.goto (4), 3) := by decide +kernel
theorem d_Law_law_242 : decode code 242 = .ok (.iconst 0, 1) := by decide +kernel
theorem d_Law_law_243 : decode code 243 = .ok (.invokevirtual 31, 3) := by decide +kernel
theorem d_Law_law_246 : decode code 246 = .ok (.aload_n 2, 1) := by decide +kernel
theorem d_Law_law_247 : decode code 247 = .ok (.aload_n 0, 1) := by decide +kernel
theorem d_Law_law_248 : decode code 248 = .ok (.iload_n 3, 1) := by decide +kernel
theorem d_Law_law_249 : decode code 249 = .ok (.iconst 1, 1) := by decide +kernel
theorem d_Law_law_250 : decode code 250 = .ok (.iadd, 1) := by decide +kernel
theorem d_Law_law_251 : decode code 251 = .ok (.iaload, 1) := by decide +kernel
theorem d_Law_law_252 : decode code 252 = .ok (.aload_n 0, 1) := by decide +kernel
theorem d_Law_law_253 : decode code 253 = .ok (.iload_n 3, 1) := by decide +kernel
theorem d_Law_law_254 : decode code 254 = .ok (.iconst 2, 1) := by decide +kernel
theorem d_Law_law_255 : decode code 255 = .ok (.iadd, 1) := by decide +kernel
theorem d_Law_law_256 : decode code 256 = .ok (.iaload, 1) := by decide +kernel
theorem d_Law_law_257 : decode code 257 = .ok (.ifCond .eq (7), 3) := by decide +kernel
theorem d_Law_law_260 : decode code 260 = .ok (.iconst 1, 1) := by decide +kernel
theorem d_Law_law_261 : decode code 261 = .ok (.goto (4), 3) := by decide +kernel
theorem d_Law_law_264 : decode code 264 = .ok (.iconst 0, 1) := by decide +kernel
theorem d_Law_law_265 : decode code 265 = .ok (.invokevirtual 35, 3) := by decide +kernel
theorem d_Law_law_268 : decode code 268 = .ok (.if_icmp .eq (350), 3) := by decide +kernel
theorem d_Law_law_271 : decode code 271 = .ok (.iconst 0, 1) := by decide +kernel
theorem d_Law_law_272 : decode code 272 = .ok (.ireturn, 1) := by decide +kernel
theorem d_Law_law_273 : decode code 273 = .ok (.aload_n 1, 1) := by decide +kernel
theorem d_Law_law_274 : decode code 274 = .ok (.aload_n 0, 1) := by decide +kernel
theorem d_Law_law_275 : decode code 275 = .ok (.iload_n 3, 1) := by decide +kernel
theorem d_Law_law_276 : decode code 276 = .ok (.iconst 1, 1) := by decide +kernel
theorem d_Law_law_277 : decode code 277 = .ok (.iadd, 1) := by decide +kernel
theorem d_Law_law_278 : decode code 278 = .ok (.iaload, 1) := by decide +kernel
theorem d_Law_law_279 : decode code 279 = .ok (.aload_n 0, 1) := by decide +kernel
theorem d_Law_law_280 : decode code 280 = .ok (.iload_n 3, 1) := by decide +kernel
theorem d_Law_law_281 : decode code 281 = .ok (.iconst 2, 1) := by decide +kernel
theorem d_Law_law_282 : decode code 282 = .ok (.iadd, 1) := by decide +kernel
theorem d_Law_law_283 : decode code 283 = .ok (.iaload, 1) := by decide +kernel
theorem d_Law_law_284 : decode code 284 = .ok (.i2b, 1) := by decide +kernel
theorem d_Law_law_285 : decode code 285 = .ok (.invokevirtual 36, 3) := by decide +kernel
theorem d_Law_law_288 : decode code 288 = .ok (.aload_n 2, 1) := by decide +kernel
theorem d_Law_law_289 : decode code 289 = .ok (.aload_n 0, 1) := by decide +kernel
theorem d_Law_law_290 : decode code 290 = .ok (.iload_n 3, 1) := by decide +kernel
theorem d_Law_law_291 : decode code 291 = .ok (.iconst 1, 1) := by decide +kernel
theorem d_Law_law_292 : decode code 292 = .ok (.iadd, 1) := by decide +kernel
theorem d_Law_law_293 : decode code 293 = .ok (.iaload, 1) := by decide +kernel
theorem d_Law_law_294 : decode code 294 = .ok (.aload_n 0, 1) := by decide +kernel
theorem d_Law_law_295 : decode code 295 = .ok (.iload_n 3, 1) := by decide +kernel
theorem d_Law_law_296 : decode code 296 = .ok (.iconst 2, 1) := by decide +kernel
theorem d_Law_law_297 : decode code 297 = .ok (.iadd, 1) := by decide +kernel
theorem d_Law_law_298 : decode code 298 = .ok (.iaload, 1) := by decide +kernel
theorem d_Law_law_299 : decode code 299 = .ok (.i2b, 1) := by decide +kernel
theorem d_Law_law_300 : decode code 300 = .ok (.invokevirtual 40, 3) := by decide +kernel
theorem d_Law_law_303 : decode code 303 = .ok (.if_icmp .eq (315), 3) := by decide +kernel
theorem d_Law_law_306 : decode code 306 = .ok (.iconst 0, 1) := by decide +kernel
theorem d_Law_law_307 : decode code 307 = .ok (.ireturn, 1) := by decide +kernel
theorem d_Law_law_308 : decode code 308 = .ok (.aload_n 1, 1) := by decide +kernel
theorem d_Law_law_309 : decode code 309 = .ok (.aload_n 0, 1) := by decide +kernel
theorem d_Law_law_310 : decode code 310 = .ok (.iload_n 3, 1) := by decide +kernel
theorem d_Law_law_311 : decode code 311 = .ok (.iconst 1, 1) := by decide +kernel
theorem d_Law_law_312 : decode code 312 = .ok (.iadd, 1) := by decide +kernel
theorem d_Law_law_313 : decode code 313 = .ok (.iaload, 1) := by decide +kernel
theorem d_Law_law_314 : decode code 314 = .ok (.invokevirtual 41, 3) := by decide +kernel
theorem d_Law_law_317 : decode code 317 = .ok (.aload_n 2, 1) := by decide +kernel
theorem d_Law_law_318 : decode code 318 = .ok (.aload_n 0, 1) := by decide +kernel
theorem d_Law_law_319 : decode code 319 = .ok (.iload_n 3, 1) := by decide +kernel
theorem d_Law_law_320 : decode code 320 = .ok (.iconst 1, 1) := by decide +kernel
theorem d_Law_law_321 : decode code 321 = .ok (.iadd, 1) := by decide +kernel
theorem d_Law_law_322 : decode code 322 = .ok (.iaload, 1) := by decide +kernel
theorem d_Law_law_323 : decode code 323 = .ok (.invokevirtual 44, 3) := by decide +kernel
theorem d_Law_law_326 : decode code 326 = .ok (.if_icmp .eq (292), 3) := by decide +kernel
theorem d_Law_law_329 : decode code 329 = .ok (.iconst 0, 1) := by decide +kernel
theorem d_Law_law_330 : decode code 330 = .ok (.ireturn, 1) := by decide +kernel
theorem d_Law_law_331 : decode code 331 = .ok (.aload_n 1, 1) := by decide +kernel
theorem d_Law_law_332 : decode code 332 = .ok (.aload_n 0, 1) := by decide +kernel
theorem d_Law_law_333 : decode code 333 = .ok (.iload_n 3, 1) := by decide +kernel
theorem d_Law_law_334 : decode code 334 = .ok (.iconst 1, 1) := by decide +kernel
theorem d_Law_law_335 : decode code 335 = .ok (.iadd, 1) := by decide +kernel
theorem d_Law_law_336 : decode code 336 = .ok (.iaload, 1) := by decide +kernel
theorem d_Law_law_337 : decode code 337 = .ok (.aload_n 0, 1) := by decide +kernel
theorem d_Law_law_338 : decode code 338 = .ok (.iload_n 3, 1) := by decide +kernel
theorem d_Law_law_339 : decode code 339 = .ok (.iconst 2, 1) := by decide +kernel
theorem d_Law_law_340 : decode code 340 = .ok (.iadd, 1) := by decide +kernel
theorem d_Law_law_341 : decode code 341 = .ok (.iaload, 1) := by decide +kernel
theorem d_Law_law_342 : decode code 342 = .ok (.invokevirtual 45, 3) := by decide +kernel
theorem d_Law_law_345 : decode code 345 = .ok (.aload_n 2, 1) := by decide +kernel
theorem d_Law_law_346 : decode code 346 = .ok (.aload_n 0, 1) := by decide +kernel
theorem d_Law_law_347 : decode code 347 = .ok (.iload_n 3, 1) := by decide +kernel
theorem d_Law_law_348 : decode code 348 = .ok (.iconst 1, 1) := by decide +kernel
theorem d_Law_law_349 : decode code 349 = .ok (.iadd, 1) := by decide +kernel
theorem d_Law_law_350 : decode code 350 = .ok (.iaload, 1) := by decide +kernel
theorem d_Law_law_351 : decode code 351 = .ok (.aload_n 0, 1) := by decide +kernel
theorem d_Law_law_352 : decode code 352 = .ok (.iload_n 3, 1) := by decide +kernel
theorem d_Law_law_353 : decode code 353 = .ok (.iconst 2, 1) := by decide +kernel
theorem d_Law_law_354 : decode code 354 = .ok (.iadd, 1) := by decide +kernel
theorem d_Law_law_355 : decode code 355 = .ok (.iaload, 1) := by decide +kernel
theorem d_Law_law_356 : decode code 356 = .ok (.invokevirtual 48, 3) := by decide +kernel
theorem d_Law_law_359 : decode code 359 = .ok (.if_icmp .eq (259), 3) := by decide +kernel
theorem d_Law_law_362 : decode code 362 = .ok (.iconst 0, 1) := by decide +kernel
theorem d_Law_law_363 : decode code 363 = .ok (.ireturn, 1) := by decide +kernel
theorem d_Law_law_364 : decode code 364 = .ok (.aload_n 1, 1) := by decide +kernel
theorem d_Law_law_365 : decode code 365 = .ok (.aload_n 0, 1) := by decide +kernel
