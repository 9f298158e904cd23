theorem dW_law_0 : decode mW_law.2.1 0 = .ok (.new 7, 3) := by decide +kernel
theorem dW_law_3 : decode mW_law.2.1 3 = .ok (.dup, 1) := by decide +kernel
theorem dW_law_4 : decode mW_law.2.1 4 = .ok (.invokespecial 9, 3) := by decide +kernel
theorem dW_law_7 : decode mW_law.2.1 7 = .ok (.astore_n 1, 1) := by decide +kernel
theorem dW_law_8 : decode mW_law.2.1 8 = .ok (.new 10, 3) := by decide +kernel
theorem dW_law_11 : decode mW_law.2.1 11 = .ok (.dup, 1) := by decide +kernel
theorem dW_law_12 : decode mW_law.2.1 12 = .ok (.invokespecial 12, 3) := by decide +kernel
theorem dW_law_15 : decode mW_law.2.1 15 = .ok (.astore_n 2, 1) := by decide +kernel
theorem dW_law_16 : decode mW_law.2.1 16 = .ok (.iconst 0, 1) := by decide +kernel
theorem dW_law_17 : decode mW_law.2.1 17 = .ok (.istore_n 3, 1) := by decide +kernel
theorem dW_law_18 : decode mW_law.2.1 18 = .ok (.iload_n 3, 1) := by decide +kernel
theorem dW_law_19 : decode mW_law.2.1 19 = .ok (.aload_n 0, 1) := by decide +kernel
theorem dW_law_20 : decode mW_law.2.1 20 = .ok (.arraylength, 1) := by decide +kernel
theorem dW_law_21 : decode mW_law.2.1 21 = .ok (.bipush 6, 2) := by decide +kernel
theorem dW_law_23 : decode mW_law.2.1 23 = .ok (.isub, 1) := by decide +kernel
theorem dW_law_24 : decode mW_law.2.1 24 = .ok (.if_icmp .gt 1412, 3) := by decide +kernel
theorem dW_law_27 : decode mW_law.2.1 27 = .ok (.aload_n 0, 1) := by decide +kernel
theorem dW_law_28 : decode mW_law.2.1 28 = .ok (.iload_n 3, 1) := by decide +kernel
theorem dW_law_29 : decode mW_law.2.1 29 = .ok (.iaload, 1) := by decide +kernel
theorem dW_law_30 : decode mW_law.2.1 30 = .ok (.bipush 63, 2) := by decide +kernel
theorem dW_law_32 : decode mW_law.2.1 32 = .ok (.iand, 1) := by decide +kernel
theorem dW_law_33 : decode mW_law.2.1 33 = .ok (.tableswitch 1397 0 40 #[179, 212, 255, 298, 331, 354, 367, 390, 423, 446, 480, 503, 527, 550, 573, 606, 630, 674, 697, 720, 753, 776, 809, 842, 885, 908, 931, 954, 967, 980, 993, 1006, 1029, 1072, 1095, 1128, 1171, 1244, 1278, 1341, 1374], 179) := by decide +kernel
theorem dW_law_212 : decode mW_law.2.1 212 = .ok (.aload_n 1, 1) := by decide +kernel
theorem dW_law_213 : decode mW_law.2.1 213 = .ok (.aload_n 0, 1) := by decide +kernel
theorem dW_law_214 : decode mW_law.2.1 214 = .ok (.iload_n 3, 1) := by decide +kernel
theorem dW_law_215 : decode mW_law.2.1 215 = .ok (.iconst 1, 1) := by decide +kernel
theorem dW_law_216 : decode mW_law.2.1 216 = .ok (.iadd, 1) := by decide +kernel
theorem dW_law_217 : decode mW_law.2.1 217 = .ok (.iaload, 1) := by decide +kernel
theorem dW_law_218 : decode mW_law.2.1 218 = .ok (.aload_n 0, 1) := by decide +kernel
theorem dW_law_219 : decode mW_law.2.1 219 = .ok (.iload_n 3, 1) := by decide +kernel
theorem dW_law_220 : decode mW_law.2.1 220 = .ok (.iconst 2, 1) := by decide +kernel
theorem dW_law_221 : decode mW_law.2.1 221 = .ok (.iadd, 1) := by decide +kernel
theorem dW_law_222 : decode mW_law.2.1 222 = .ok (.iaload, 1) := by decide +kernel
theorem dW_law_223 : decode mW_law.2.1 223 = .ok (.invokevirtual 13, 3) := by decide +kernel
theorem dW_law_226 : decode mW_law.2.1 226 = .ok (.aload_n 2, 1) := by decide +kernel
theorem dW_law_227 : decode mW_law.2.1 227 = .ok (.aload_n 0, 1) := by decide +kernel
theorem dW_law_228 : decode mW_law.2.1 228 = .ok (.iload_n 3, 1) := by decide +kernel
theorem dW_law_229 : decode mW_law.2.1 229 = .ok (.iconst 1, 1) := by decide +kernel
theorem dW_law_230 : decode mW_law.2.1 230 = .ok (.iadd, 1) := by decide +kernel
theorem dW_law_231 : decode mW_law.2.1 231 = .ok (.iaload, 1) := by decide +kernel
theorem dW_law_232 : decode mW_law.2.1 232 = .ok (.aload_n 0, 1) := by decide +kernel
theorem dW_law_233 : decode mW_law.2.1 233 = .ok (.iload_n 3, 1) := by decide +kernel
theorem dW_law_234 : decode mW_law.2.1 234 = .ok (.iconst 2, 1) := by decide +kernel
theorem dW_law_235 : decode mW_law.2.1 235 = .ok (.iadd, 1) := by decide +kernel
theorem dW_law_236 : decode mW_law.2.1 236 = .ok (.iaload, 1) := by decide +kernel
theorem dW_law_237 : decode mW_law.2.1 237 = .ok (.invokevirtual 17, 3) := by decide +kernel
theorem dW_law_240 : decode mW_law.2.1 240 = .ok (.if_icmp .eq 1190, 3) := by decide +kernel
theorem dW_law_243 : decode mW_law.2.1 243 = .ok (.iconst 0, 1) := by decide +kernel
theorem dW_law_244 : decode mW_law.2.1 244 = .ok (.ireturn, 1) := by decide +kernel
theorem dW_law_245 : decode mW_law.2.1 245 = .ok (.aload_n 1, 1) := by decide +kernel
theorem dW_law_246 : decode mW_law.2.1 246 = .ok (.aload_n 0, 1) := by decide +kernel
theorem dW_law_247 : decode mW_law.2.1 247 = .ok (.iload_n 3, 1) := by decide +kernel
theorem dW_law_248 : decode mW_law.2.1 248 = .ok (.iconst 1, 1) := by decide +kernel
theorem dW_law_249 : decode mW_law.2.1 249 = .ok (.iadd, 1) := by decide +kernel
theorem dW_law_250 : decode mW_law.2.1 250 = .ok (.iaload, 1) := by decide +kernel
theorem dW_law_251 : decode mW_law.2.1 251 = .ok (.aload_n 0, 1) := by decide +kernel
theorem dW_law_252 : decode mW_law.2.1 252 = .ok (.iload_n 3, 1) := by decide +kernel
theorem dW_law_253 : decode mW_law.2.1 253 = .ok (.iconst 2, 1) := by decide +kernel
theorem dW_law_254 : decode mW_law.2.1 254 = .ok (.iadd, 1) := by decide +kernel
theorem dW_law_255 : decode mW_law.2.1 255 = .ok (.iaload, 1) := by decide +kernel
theorem dW_law_256 : decode mW_law.2.1 256 = .ok (.aload_n 0, 1) := by decide +kernel
theorem dW_law_257 : decode mW_law.2.1 257 = .ok (.iload_n 3, 1) := by decide +kernel
theorem dW_law_258 : decode mW_law.2.1 258 = .ok (.iconst 3, 1) := by decide +kernel
theorem dW_law_259 : decode mW_law.2.1 259 = .ok (.iadd, 1) := by decide +kernel
theorem dW_law_260 : decode mW_law.2.1 260 = .ok (.iaload, 1) := by decide +kernel
theorem dW_law_261 : decode mW_law.2.1 261 = .ok (.invokevirtual 18, 3) := by decide +kernel
theorem dW_law_264 : decode mW_law.2.1 264 = .ok (.aload_n 2, 1) := by decide +kernel
theorem dW_law_265 : decode mW_law.2.1 265 = .ok (.aload_n 0, 1) := by decide +kernel
theorem dW_law_266 : decode mW_law.2.1 266 = .ok (.iload_n 3, 1) := by decide +kernel
theorem dW_law_267 : decode mW_law.2.1 267 = .ok (.iconst 1, 1) := by decide +kernel
theorem dW_law_268 : decode mW_law.2.1 268 = .ok (.iadd, 1) := by decide +kernel
theorem dW_law_269 : decode mW_law.2.1 269 = .ok (.iaload, 1) := by decide +kernel
theorem dW_law_270 : decode mW_law.2.1 270 = .ok (.aload_n 0, 1) := by decide +kernel
theorem dW_law_271 : decode mW_law.2.1 271 = .ok (.iload_n 3, 1) := by decide +kernel
theorem dW_law_272 : decode mW_law.2.1 272 = .ok (.iconst 2, 1) := by decide +kernel
theorem dW_law_273 : decode mW_law.2.1 273 = .ok (.iadd, 1) := by decide +kernel
theorem dW_law_274 : decode mW_law.2.1 274 = .ok (.iaload, 1) := by decide +kernel
theorem dW_law_275 : decode mW_law.2.1 275 = .ok (.aload_n 0, 1) := by decide +kernel
theorem dW_law_276 : decode mW_law.2.1 276 = .ok (.iload_n 3, 1) := by decide +kernel
theorem dW_law_277 : decode mW_law.2.1 277 = .ok (.iconst 3, 1) := by decide +kernel
theorem dW_law_278 : decode mW_law.2.1 278 = .ok (.iadd, 1) := by decide +kernel
theorem dW_law_279 : decode mW_law.2.1 279 = .ok (.iaload, 1) := by decide +kernel
theorem dW_law_280 : decode mW_law.2.1 280 = .ok (.invokevirtual 22, 3) := by decide +kernel
theorem dW_law_283 : decode mW_law.2.1 283 = .ok (.if_icmp .eq 1147, 3) := by decide +kernel
theorem dW_law_286 : decode mW_law.2.1 286 = .ok (.iconst 0, 1) := by decide +kernel
theorem dW_law_287 : decode mW_law.2.1 287 = .ok (.ireturn, 1) := by decide +kernel
theorem dW_law_288 : decode mW_law.2.1 288 = .ok (.aload_n 1, 1) := by decide +kernel
theorem dW_law_289 : decode mW_law.2.1 289 = .ok (.aload_n 0, 1) := by decide +kernel
theorem dW_law_290 : decode mW_law.2.1 290 = .ok (.iload_n 3, 1) := by decide +kernel
theorem dW_law_291 : decode mW_law.2.1 291 = .ok (.iconst 1, 1) := by decide +kernel
theorem dW_law_292 : decode mW_law.2.1 292 = .ok (.iadd, 1) := by decide +kernel
theorem dW_law_293 : decode mW_law.2.1 293 = .ok (.iaload, 1) := by decide +kernel
theorem dW_law_294 : decode mW_law.2.1 294 = .ok (.aload_n 0, 1) := by decide +kernel
theorem dW_law_295 : decode mW_law.2.1 295 = .ok (.iload_n 3, 1) := by decide +kernel
theorem dW_law_296 : decode mW_law.2.1 296 = .ok (.iconst 2, 1) := by decide +kernel
theorem dW_law_297 : decode mW_law.2.1 297 = .ok (.iadd, 1) := by decide +kernel
theorem dW_law_298 : decode mW_law.2.1 298 = .ok (.iaload, 1) := by decide +kernel
theorem dW_law_299 : decode mW_law.2.1 299 = .ok (.aload_n 0, 1) := by decide +kernel
theorem dW_law_300 : decode mW_law.2.1 300 = .ok (.iload_n 3, 1) := by decide +kernel
theorem dW_law_301 : decode mW_law.2.1 301 = .ok (.iconst 3, 1) := by decide +kernel
theorem dW_law_302 : decode mW_law.2.1 302 = .ok (.iadd, 1) := by decide +kernel
theorem dW_law_303 : decode mW_law.2.1 303 = .ok (.iaload, 1) := by decide +kernel
theorem dW_law_304 : decode mW_law.2.1 304 = .ok (.invokevirtual 23, 3) := by decide +kernel
theorem dW_law_307 : decode mW_law.2.1 307 = .ok (.aload_n 2, 1) := by decide +kernel
theorem dW_law_308 : decode mW_law.2.1 308 = .ok (.aload_n 0, 1) := by decide +kernel
theorem dW_law_309 : decode mW_law.2.1 309 = .ok (.iload_n 3, 1) := by decide +kernel
theorem dW_law_310 : decode mW_law.2.1 310 = .ok (.iconst 1, 1) := by decide +kernel
theorem dW_law_311 : decode mW_law.2.1 311 = .ok (.iadd, 1) := by decide +kernel
theorem dW_law_312 : decode mW_law.2.1 312 = .ok (.iaload, 1) := by decide +kernel
theorem dW_law_313 : decode mW_law.2.1 313 = .ok (.aload_n 0, 1) := by decide +kernel
theorem dW_law_314 : decode mW_law.2.1 314 = .ok (.iload_n 3, 1) := by decide +kernel
theorem dW_law_315 : decode mW_law.2.1 315 = .ok (.iconst 2, 1) := by decide +kernel
theorem dW_law_316 : decode mW_law.2.1 316 = .ok (.iadd, 1) := by decide +kernel
theorem dW_law_317 : decode mW_law.2.1 317 = .ok (.iaload, 1) := by decide +kernel
theorem dW_law_318 : decode mW_law.2.1 318 = .ok (.aload_n 0, 1) := by decide +kernel
theorem dW_law_319 : decode mW_law.2.1 319 = .ok (.iload_n 3, 1) := by decide +kernel
theorem dW_law_320 : decode mW_law.2.1 320 = .ok (.iconst 3, 1) := by decide +kernel
theorem dW_law_321 : decode mW_law.2.1 321 = .ok (.iadd, 1) := by decide +kernel
theorem dW_law_322 : decode mW_law.2.1 322 = .ok (.iaload, 1) := by decide +kernel
theorem dW_law_323 : decode mW_law.2.1 323 = .ok (.invokevirtual 26, 3) := by decide +kernel
theorem dW_law_326 : decode mW_law.2.1 326 = .ok (.if_icmp .eq 1104, 3) := by decide +kernel
theorem dW_law_329 : decode mW_law.2.1 329 = .ok (.iconst 0, 1) := by decide +kernel
theorem dW_law_330 : decode mW_law.2.1 330 = .ok (.ireturn, 1) := by decide +kernel
theorem dW_law_331 : decode mW_law.2.1 331 = .ok (.aload_n 1, 1) := by decide +kernel
theorem dW_law_332 : decode mW_law.2.1 332 = .ok (.aload_n 0, 1) := by decide +kernel
theorem dW_law_333 : decode mW_law.2.1 333 = .ok (.iload_n 3, 1) := by decide +kernel
theorem dW_law_334 : decode mW_law.2.1 334 = .ok (.iconst 1, 1) := by decide +kernel
theorem dW_law_335 : decode mW_law.2.1 335 = .ok (.iadd, 1) := by decide +kernel
theorem dW_law_336 : decode mW_law.2.1 336 = .ok (.iaload, 1) := by decide +kernel
theorem dW_law_337 : decode mW_law.2.1 337 = .ok (.aload_n 0, 1) := by decide +kernel
theorem dW_law_338 : decode mW_law.2.1 338 = .ok (.iload_n 3, 1) := by decide +kernel
theorem dW_law_339 : decode mW_law.2.1 339 = .ok (.iconst 2, 1) := by decide +kernel
theorem dW_law_340 : decode mW_law.2.1 340 = .ok (.iadd, 1) := by decide +kernel
theorem dW_law_341 : decode mW_law.2.1 341 = .ok (.iaload, 1) := by decide +kernel
theorem dW_law_342 : decode mW_law.2.1 342 = .ok (.invokevirtual 27, 3) := by decide +kernel
theorem dW_law_345 : decode mW_law.2.1 345 = .ok (.aload_n 2, 1) := by decide +kernel
theorem dW_law_346 : decode mW_law.2.1 346 = .ok (.aload_n 0, 1) := by decide +kernel
theorem dW_law_347 : decode mW_law.2.1 347 = .ok (.iload_n 3, 1) := by decide +kernel
theorem dW_law_348 : decode mW_law.2.1 348 = .ok (.iconst 1, 1) := by decide +kernel
theorem dW_law_349 : decode mW_law.2.1 349 = .ok (.iadd, 1) := by decide +kernel
theorem dW_law_350 : decode mW_law.2.1 350 = .ok (.iaload, 1) := by decide +kernel
theorem dW_law_351 : decode mW_law.2.1 351 = .ok (.aload_n 0, 1) := by decide +kernel
theorem dW_law_352 : decode mW_law.2.1 352 = .ok (.iload_n 3, 1) := by decide +kernel
theorem dW_law_353 : decode mW_law.2.1 353 = .ok (.iconst 2, 1) := by decide +kernel
theorem dW_law_354 : decode mW_law.2.1 354 = .ok (.iadd, 1) := by decide +kernel
theorem dW_law_355 : decode mW_law.2.1 355 = .ok (.iaload, 1) := by decide +kernel
theorem dW_law_356 : decode mW_law.2.1 356 = .ok (.invokevirtual 30, 3) := by decide +kernel
theorem dW_law_359 : decode mW_law.2.1 359 = .ok (.if_icmp .eq 1071, 3) := by decide +kernel
theorem dW_law_362 : decode mW_law.2.1 362 = .ok (.iconst 0, 1) := by decide +kernel
theorem dW_law_363 : decode mW_law.2.1 363 = .ok (.ireturn, 1) := by decide +kernel
theorem dW_law_364 : decode mW_law.2.1 364 = .ok (.aload_n 1, 1) := by decide +kernel
theorem dW_law_365 : decode mW_law.2.1 365 = .ok (.aload_n 0, 1) := by decide +kernel
theorem dW_law_366 : decode mW_law.2.1 366 = .ok (.iload_n 3, 1) := by decide +kernel
theorem dW_law_367 : decode mW_law.2.1 367 = .ok (.iconst 1, 1) := by decide +kernel
theorem dW_law_368 : decode mW_law.2.1 368 = .ok (.iadd, 1) := by decide +kernel
theorem dW_law_369 : decode mW_law.2.1 369 = .ok (.iaload, 1) := by decide +kernel
theorem dW_law_370 : decode mW_law.2.1 370 = .ok (.invokevirtual 31, 3) := by decide +kernel
theorem dW_law_373 : decode mW_law.2.1 373 = .ok (.aload_n 2, 1) := by decide +kernel
theorem dW_law_374 : decode mW_law.2.1 374 = .ok (.aload_n 0, 1) := by decide +kernel
theorem dW_law_375 : decode mW_law.2.1 375 = .ok (.iload_n 3, 1) := by decide +kernel
theorem dW_law_376 : decode mW_law.2.1 376 = .ok (.iconst 1, 1) := by decide +kernel
theorem dW_law_377 : decode mW_law.2.1 377 = .ok (.iadd, 1) := by decide +kernel
theorem dW_law_378 : decode mW_law.2.1 378 = .ok (.iaload, 1) := by decide +kernel
theorem dW_law_379 : decode mW_law.2.1 379 = .ok (.invokevirtual 35, 3) := by decide +kernel
theorem dW_law_382 : decode mW_law.2.1 382 = .ok (.if_icmp .eq 1048, 3) := by decide +kernel
theorem dW_law_385 : decode mW_law.2.1 385 = .ok (.iconst 0, 1) := by decide +kernel
theorem dW_law_386 : decode mW_law.2.1 386 = .ok (.ireturn, 1) := by decide +kernel
theorem dW_law_387 : decode mW_law.2.1 387 = .ok (.aload_n 1, 1) := by decide +kernel
theorem dW_law_388 : decode mW_law.2.1 388 = .ok (.invokevirtual 36, 3) := by decide +kernel
theorem dW_law_391 : decode mW_law.2.1 391 = .ok (.aload_n 2, 1) := by decide +kernel
theorem dW_law_392 : decode mW_law.2.1 392 = .ok (.invokevirtual 40, 3) := by decide +kernel
theorem dW_law_395 : decode mW_law.2.1 395 = .ok (.if_icmp .eq 1035, 3) := by decide +kernel
theorem dW_law_398 : decode mW_law.2.1 398 = .ok (.iconst 0, 1) := by decide +kernel
theorem dW_law_399 : decode mW_law.2.1 399 = .ok (.ireturn, 1) := by decide +kernel
theorem dW_law_400 : decode mW_law.2.1 400 = .ok (.aload_n 1, 1) := by decide +kernel
theorem dW_law_401 : decode mW_law.2.1 401 = .ok (.aload_n 0, 1) := by decide +kernel
theorem dW_law_402 : decode mW_law.2.1 402 = .ok (.iload_n 3, 1) := by decide +kernel
theorem dW_law_403 : decode mW_law.2.1 403 = .ok (.iconst 1, 1) := by decide +kernel
theorem dW_law_404 : decode mW_law.2.1 404 = .ok (.iadd, 1) := by decide +kernel
theorem dW_law_405 : decode mW_law.2.1 405 = .ok (.iaload, 1) := by decide +kernel
theorem dW_law_406 : decode mW_law.2.1 406 = .ok (.invokevirtual 41, 3) := by decide +kernel
theorem dW_law_409 : decode mW_law.2.1 409 = .ok (.aload_n 2, 1) := by decide +kernel
theorem dW_law_410 : decode mW_law.2.1 410 = .ok (.aload_n 0, 1) := by decide +kernel
theorem dW_law_411 : decode mW_law.2.1 411 = .ok (.iload_n 3, 1) := by decide +kernel
theorem dW_law_412 : decode mW_law.2.1 412 = .ok (.iconst 1, 1) := by decide +kernel
theorem dW_law_413 : decode mW_law.2.1 413 = .ok (.iadd, 1) := by decide +kernel
theorem dW_law_414 : decode mW_law.2.1 414 = .ok (.iaload, 1) := by decide +kernel
theorem dW_law_415 : decode mW_law.2.1 415 = .ok (.invokevirtual 44, 3) := by decide +kernel
theorem dW_law_418 : decode mW_law.2.1 418 = .ok (.if_icmp .eq 1012, 3) := by decide +kernel
theorem dW_law_421 : decode mW_law.2.1 421 = .ok (.iconst 0, 1) := by decide +kernel
theorem dW_law_422 : decode mW_law.2.1 422 = .ok (.ireturn, 1) := by decide +kernel
theorem dW_law_423 : decode mW_law.2.1 423 = .ok (.aload_n 1, 1) := by decide +kernel
theorem dW_law_424 : decode mW_law.2.1 424 = .ok (.aload_n 0, 1) := by decide +kernel
theorem dW_law_425 : decode mW_law.2.1 425 = .ok (.iload_n 3, 1) := by decide +kernel
theorem dW_law_426 : decode mW_law.2.1 426 = .ok (.iconst 1, 1) := by decide +kernel
theorem dW_law_427 : decode mW_law.2.1 427 = .ok (.iadd, 1) := by decide +kernel
theorem dW_law_428 : decode mW_law.2.1 428 = .ok (.iaload, 1) := by decide +kernel
theorem dW_law_429 : decode mW_law.2.1 429 = .ok (.aload_n 0, 1) := by decide +kernel
theorem dW_law_430 : decode mW_law.2.1 430 = .ok (.iload_n 3, 1) := by decide +kernel
theorem dW_law_431 : decode mW_law.2.1 431 = .ok (.iconst 2, 1) := by decide +kernel
theorem dW_law_432 : decode mW_law.2.1 432 = .ok (.iadd, 1) := by decide +kernel
theorem dW_law_433 : decode mW_law.2.1 433 = .ok (.iaload, 1) := by decide +kernel
theorem dW_law_434 : decode mW_law.2.1 434 = .ok (.invokevirtual 45, 3) := by decide +kernel
theorem dW_law_437 : decode mW_law.2.1 437 = .ok (.aload_n 2, 1) := by decide +kernel
theorem dW_law_438 : decode mW_law.2.1 438 = .ok (.aload_n 0, 1) := by decide +kernel
theorem dW_law_439 : decode mW_law.2.1 439 = .ok (.iload_n 3, 1) := by decide +kernel
theorem dW_law_440 : decode mW_law.2.1 440 = .ok (.iconst 1, 1) := by decide +kernel
theorem dW_law_441 : decode mW_law.2.1 441 = .ok (.iadd, 1) := by decide +kernel
theorem dW_law_442 : decode mW_law.2.1 442 = .ok (.iaload, 1) := by decide +kernel
theorem dW_law_443 : decode mW_law.2.1 443 = .ok (.aload_n 0, 1) := by decide +kernel
theorem dW_law_444 : decode mW_law.2.1 444 = .ok (.iload_n 3, 1) := by decide +kernel
theorem dW_law_445 : decode mW_law.2.1 445 = .ok (.iconst 2, 1) := by decide +kernel
theorem dW_law_446 : decode mW_law.2.1 446 = .ok (.iadd, 1) := by decide +kernel
theorem dW_law_447 : decode mW_law.2.1 447 = .ok (.iaload, 1) := by decide +kernel
theorem dW_law_448 : decode mW_law.2.1 448 = .ok (.invokevirtual 48, 3) := by decide +kernel
theorem dW_law_451 : decode mW_law.2.1 451 = .ok (.if_icmp .eq 979, 3) := by decide +kernel
theorem dW_law_454 : decode mW_law.2.1 454 = .ok (.iconst 0, 1) := by decide +kernel
theorem dW_law_455 : decode mW_law.2.1 455 = .ok (.ireturn, 1) := by decide +kernel
theorem dW_law_456 : decode mW_law.2.1 456 = .ok (.aload_n 1, 1) := by decide +kernel
theorem dW_law_457 : decode mW_law.2.1 457 = .ok (.aload_n 0, 1) := by decide +kernel
theorem dW_law_458 : decode mW_law.2.1 458 = .ok (.iload_n 3, 1) := by decide +kernel
theorem dW_law_459 : decode mW_law.2.1 459 = .ok (.iconst 1, 1) := by decide +kernel
theorem dW_law_460 : decode mW_law.2.1 460 = .ok (.iadd, 1) := by decide +kernel
theorem dW_law_461 : decode mW_law.2.1 461 = .ok (.iaload, 1) := by decide +kernel
theorem dW_law_462 : decode mW_law.2.1 462 = .ok (.invokevirtual 49, 3) := by decide +kernel
theorem dW_law_465 : decode mW_law.2.1 465 = .ok (.aload_n 2, 1) := by decide +kernel
theorem dW_law_466 : decode mW_law.2.1 466 = .ok (.aload_n 0, 1) := by decide +kernel
theorem dW_law_467 : decode mW_law.2.1 467 = .ok (.iload_n 3, 1) := by decide +kernel
theorem dW_law_468 : decode mW_law.2.1 468 = .ok (.iconst 1, 1) := by decide +kernel
theorem dW_law_469 : decode mW_law.2.1 469 = .ok (.iadd, 1) := by decide +kernel
theorem dW_law_470 : decode mW_law.2.1 470 = .ok (.iaload, 1) := by decide +kernel
theorem dW_law_471 : decode mW_law.2.1 471 = .ok (.invokevirtual 52, 3) := by decide +kernel
theorem dW_law_474 : decode mW_law.2.1 474 = .ok (.if_icmp .eq 956, 3) := by decide +kernel
theorem dW_law_477 : decode mW_law.2.1 477 = .ok (.iconst 0, 1) := by decide +kernel
theorem dW_law_478 : decode mW_law.2.1 478 = .ok (.ireturn, 1) := by decide +kernel
theorem dW_law_479 : decode mW_law.2.1 479 = .ok (.aload_n 1, 1) := by decide +kernel
theorem dW_law_480 : decode mW_law.2.1 480 = .ok (.aload_n 0, 1) := by decide +kernel
theorem dW_law_481 : decode mW_law.2.1 481 = .ok (.iload_n 3, 1) := by decide +kernel
theorem dW_law_482 : decode mW_law.2.1 482 = .ok (.iconst 1, 1) := by decide +kernel
theorem dW_law_483 : decode mW_law.2.1 483 = .ok (.iadd, 1) := by decide +kernel
theorem dW_law_484 : decode mW_law.2.1 484 = .ok (.iaload, 1) := by decide +kernel
theorem dW_law_485 : decode mW_law.2.1 485 = .ok (.aload_n 0, 1) := by decide +kernel
theorem dW_law_486 : decode mW_law.2.1 486 = .ok (.iload_n 3, 1) := by decide +kernel
theorem dW_law_487 : decode mW_law.2.1 487 = .ok (.iconst 2, 1) := by decide +kernel
theorem dW_law_488 : decode mW_law.2.1 488 = .ok (.iadd, 1) := by decide +kernel
theorem dW_law_489 : decode mW_law.2.1 489 = .ok (.iaload, 1) := by decide +kernel
theorem dW_law_490 : decode mW_law.2.1 490 = .ok (.invokevirtual 53, 3) := by decide +kernel
theorem dW_law_493 : decode mW_law.2.1 493 = .ok (.aload_n 2, 1) := by decide +kernel
theorem dW_law_494 : decode mW_law.2.1 494 = .ok (.aload_n 0, 1) := by decide +kernel
theorem dW_law_495 : decode mW_law.2.1 495 = .ok (.iload_n 3, 1) := by decide +kernel
theorem dW_law_496 : decode mW_law.2.1 496 = .ok (.iconst 1, 1) := by decide +kernel
theorem dW_law_497 : decode mW_law.2.1 497 = .ok (.iadd, 1) := by decide +kernel
theorem dW_law_498 : decode mW_law.2.1 498 = .ok (.iaload, 1) := by decide +kernel
theorem dW_law_499 : decode mW_law.2.1 499 = .ok (.aload_n 0, 1) := by decide +kernel
theorem dW_law_500 : decode mW_law.2.1 500 = .ok (.iload_n 3, 1) := by decide +kernel
theorem dW_law_501 : decode mW_law.2.1 501 = .ok (.iconst 2, 1) := by decide +kernel
theorem dW_law_502 : decode mW_law.2.1 502 = .ok (.iadd, 1) := by decide +kernel
theorem dW_law_503 : decode mW_law.2.1 503 = .ok (.iaload, 1) := by decide +kernel
theorem dW_law_504 : decode mW_law.2.1 504 = .ok (.invokevirtual 57, 3) := by decide +kernel
theorem dW_law_507 : decode mW_law.2.1 507 = .ok (.lcmp, 1) := by decide +kernel
theorem dW_law_508 : decode mW_law.2.1 508 = .ok (.ifCond .eq 922, 3) := by decide +kernel
theorem dW_law_511 : decode mW_law.2.1 511 = .ok (.iconst 0, 1) := by decide +kernel
theorem dW_law_512 : decode mW_law.2.1 512 = .ok (.ireturn, 1) := by decide +kernel
theorem dW_law_513 : decode mW_law.2.1 513 = .ok (.aload_n 1, 1) := by decide +kernel
theorem dW_law_514 : decode mW_law.2.1 514 = .ok (.aload_n 0, 1) := by decide +kernel
theorem dW_law_515 : decode mW_law.2.1 515 = .ok (.iload_n 3, 1) := by decide +kernel
theorem dW_law_516 : decode mW_law.2.1 516 = .ok (.iconst 1, 1) := by decide +kernel
theorem dW_law_517 : decode mW_law.2.1 517 = .ok (.iadd, 1) := by decide +kernel
theorem dW_law_518 : decode mW_law.2.1 518 = .ok (.iaload, 1) := by decide +kernel
theorem dW_law_519 : decode mW_law.2.1 519 = .ok (.invokevirtual 58, 3) := by decide +kernel
theorem dW_law_522 : decode mW_law.2.1 522 = .ok (.aload_n 2, 1) := by decide +kernel
theorem dW_law_523 : decode mW_law.2.1 523 = .ok (.aload_n 0, 1) := by decide +kernel
theorem dW_law_524 : decode mW_law.2.1 524 = .ok (.iload_n 3, 1) := by decide +kernel
theorem dW_law_525 : decode mW_law.2.1 525 = .ok (.iconst 1, 1) := by decide +kernel
theorem dW_law_526 : decode mW_law.2.1 526 = .ok (.iadd, 1) := by decide +kernel
theorem dW_law_527 : decode mW_law.2.1 527 = .ok (.iaload, 1) := by decide +kernel
theorem dW_law_528 : decode mW_law.2.1 528 = .ok (.invokevirtual 61, 3) := by decide +kernel
theorem dW_law_531 : decode mW_law.2.1 531 = .ok (.if_icmp .eq 899, 3) := by decide +kernel
theorem dW_law_534 : decode mW_law.2.1 534 = .ok (.iconst 0, 1) := by decide +kernel
theorem dW_law_535 : decode mW_law.2.1 535 = .ok (.ireturn, 1) := by decide +kernel
theorem dW_law_536 : decode mW_law.2.1 536 = .ok (.aload_n 1, 1) := by decide +kernel
theorem dW_law_537 : decode mW_law.2.1 537 = .ok (.aload_n 0, 1) := by decide +kernel
theorem dW_law_538 : decode mW_law.2.1 538 = .ok (.iload_n 3, 1) := by decide +kernel
theorem dW_law_539 : decode mW_law.2.1 539 = .ok (.iconst 1, 1) := by decide +kernel
theorem dW_law_540 : decode mW_law.2.1 540 = .ok (.iadd, 1) := by decide +kernel
theorem dW_law_541 : decode mW_law.2.1 541 = .ok (.iaload, 1) := by decide +kernel
theorem dW_law_542 : decode mW_law.2.1 542 = .ok (.invokevirtual 62, 3) := by decide +kernel
theorem dW_law_545 : decode mW_law.2.1 545 = .ok (.aload_n 2, 1) := by decide +kernel
theorem dW_law_546 : decode mW_law.2.1 546 = .ok (.aload_n 0, 1) := by decide +kernel
theorem dW_law_547 : decode mW_law.2.1 547 = .ok (.iload_n 3, 1) := by decide +kernel
theorem dW_law_548 : decode mW_law.2.1 548 = .ok (.iconst 1, 1) := by decide +kernel
theorem dW_law_549 : decode mW_law.2.1 549 = .ok (.iadd, 1) := by decide +kernel
theorem dW_law_550 : decode mW_law.2.1 550 = .ok (.iaload, 1) := by decide +kernel
theorem dW_law_551 : decode mW_law.2.1 551 = .ok (.invokevirtual 66, 3) := by decide +kernel
theorem dW_law_554 : decode mW_law.2.1 554 = .ok (.lcmp, 1) := by decide +kernel
theorem dW_law_555 : decode mW_law.2.1 555 = .ok (.ifCond .eq 875, 3) := by decide +kernel
theorem dW_law_558 : decode mW_law.2.1 558 = .ok (.iconst 0, 1) := by decide +kernel
theorem dW_law_559 : decode mW_law.2.1 559 = .ok (.ireturn, 1) := by decide +kernel
theorem dW_law_560 : decode mW_law.2.1 560 = .ok (.aload_n 1, 1) := by decide +kernel
theorem dW_law_561 : decode mW_law.2.1 561 = .ok (.aload_n 0, 1) := by decide +kernel
theorem dW_law_562 : decode mW_law.2.1 562 = .ok (.iload_n 3, 1) := by decide +kernel
theorem dW_law_563 : decode mW_law.2.1 563 = .ok (.iconst 1, 1) := by decide +kernel
theorem dW_law_564 : decode mW_law.2.1 564 = .ok (.iadd, 1) := by decide +kernel
theorem dW_law_565 : decode mW_law.2.1 565 = .ok (.iaload, 1) := by decide +kernel
theorem dW_law_566 : decode mW_law.2.1 566 = .ok (.invokevirtual 67, 3) := by decide +kernel
theorem dW_law_569 : decode mW_law.2.1 569 = .ok (.aload_n 2, 1) := by decide +kernel
theorem dW_law_570 : decode mW_law.2.1 570 = .ok (.aload_n 0, 1) := by decide +kernel
theorem dW_law_571 : decode mW_law.2.1 571 = .ok (.iload_n 3, 1) := by decide +kernel
theorem dW_law_572 : decode mW_law.2.1 572 = .ok (.iconst 1, 1) := by decide +kernel
theorem dW_law_573 : decode mW_law.2.1 573 = .ok (.iadd, 1) := by decide +kernel
theorem dW_law_574 : decode mW_law.2.1 574 = .ok (.iaload, 1) := by decide +kernel
theorem dW_law_575 : decode mW_law.2.1 575 = .ok (.invokevirtual 70, 3) := by decide +kernel
theorem dW_law_578 : decode mW_law.2.1 578 = .ok (.if_icmp .eq 852, 3) := by decide +kernel
theorem dW_law_581 : decode mW_law.2.1 581 = .ok (.iconst 0, 1) := by decide +kernel
theorem dW_law_582 : decode mW_law.2.1 582 = .ok (.ireturn, 1) := by decide +kernel
theorem dW_law_583 : decode mW_law.2.1 583 = .ok (.aload_n 1, 1) := by decide +kernel
theorem dW_law_584 : decode mW_law.2.1 584 = .ok (.aload_n 0, 1) := by decide +kernel
theorem dW_law_585 : decode mW_law.2.1 585 = .ok (.iload_n 3, 1) := by decide +kernel
theorem dW_law_586 : decode mW_law.2.1 586 = .ok (.iconst 1, 1) := by decide +kernel
theorem dW_law_587 : decode mW_law.2.1 587 = .ok (.iadd, 1) := by decide +kernel
theorem dW_law_588 : decode mW_law.2.1 588 = .ok (.iaload, 1) := by decide +kernel
theorem dW_law_589 : decode mW_law.2.1 589 = .ok (.invokevirtual 71, 3) := by decide +kernel
theorem dW_law_592 : decode mW_law.2.1 592 = .ok (.aload_n 2, 1) := by decide +kernel
theorem dW_law_593 : decode mW_law.2.1 593 = .ok (.aload_n 0, 1) := by decide +kernel
theorem dW_law_594 : decode mW_law.2.1 594 = .ok (.iload_n 3, 1) := by decide +kernel
theorem dW_law_595 : decode mW_law.2.1 595 = .ok (.iconst 1, 1) := by decide +kernel
theorem dW_law_596 : decode mW_law.2.1 596 = .ok (.iadd, 1) := by decide +kernel
theorem dW_law_597 : decode mW_law.2.1 597 = .ok (.iaload, 1) := by decide +kernel
theorem dW_law_598 : decode mW_law.2.1 598 = .ok (.invokevirtual 74, 3) := by decide +kernel
theorem dW_law_601 : decode mW_law.2.1 601 = .ok (.if_icmp .eq 829, 3) := by decide +kernel
theorem dW_law_604 : decode mW_law.2.1 604 = .ok (.iconst 0, 1) := by decide +kernel
theorem dW_law_605 : decode mW_law.2.1 605 = .ok (.ireturn, 1) := by decide +kernel
theorem dW_law_606 : decode mW_law.2.1 606 = .ok (.aload_n 1, 1) := by decide +kernel
theorem dW_law_607 : decode mW_law.2.1 607 = .ok (.aload_n 0, 1) := by decide +kernel
theorem dW_law_608 : decode mW_law.2.1 608 = .ok (.iload_n 3, 1) := by decide +kernel
theorem dW_law_609 : decode mW_law.2.1 609 = .ok (.iconst 1, 1) := by decide +kernel
theorem dW_law_610 : decode mW_law.2.1 610 = .ok (.iadd, 1) := by decide +kernel
theorem dW_law_611 : decode mW_law.2.1 611 = .ok (.iaload, 1) := by decide +kernel
theorem dW_law_612 : decode mW_law.2.1 612 = .ok (.aload_n 0, 1) := by decide +kernel
theorem dW_law_613 : decode mW_law.2.1 613 = .ok (.iload_n 3, 1) := by decide +kernel
theorem dW_law_614 : decode mW_law.2.1 614 = .ok (.iconst 2, 1) := by decide +kernel
theorem dW_law_615 : decode mW_law.2.1 615 = .ok (.iadd, 1) := by decide +kernel
theorem dW_law_616 : decode mW_law.2.1 616 = .ok (.iaload, 1) := by decide +kernel
theorem dW_law_617 : decode mW_law.2.1 617 = .ok (.invokevirtual 75, 3) := by decide +kernel
theorem dW_law_620 : decode mW_law.2.1 620 = .ok (.aload_n 2, 1) := by decide +kernel
theorem dW_law_621 : decode mW_law.2.1 621 = .ok (.aload_n 0, 1) := by decide +kernel
theorem dW_law_622 : decode mW_law.2.1 622 = .ok (.iload_n 3, 1) := by decide +kernel
theorem dW_law_623 : decode mW_law.2.1 623 = .ok (.iconst 1, 1) := by decide +kernel
theorem dW_law_624 : decode mW_law.2.1 624 = .ok (.iadd, 1) := by decide +kernel
theorem dW_law_625 : decode mW_law.2.1 625 = .ok (.iaload, 1) := by decide +kernel
theorem dW_law_626 : decode mW_law.2.1 626 = .ok (.aload_n 0, 1) := by decide +kernel
theorem dW_law_627 : decode mW_law.2.1 627 = .ok (.iload_n 3, 1) := by decide +kernel
theorem dW_law_628 : decode mW_law.2.1 628 = .ok (.iconst 2, 1) := by decide +kernel
theorem dW_law_629 : decode mW_law.2.1 629 = .ok (.iadd, 1) := by decide +kernel
theorem dW_law_630 : decode mW_law.2.1 630 = .ok (.iaload, 1) := by decide +kernel
theorem dW_law_631 : decode mW_law.2.1 631 = .ok (.invokevirtual 78, 3) := by decide +kernel
theorem dW_law_634 : decode mW_law.2.1 634 = .ok (.if_icmp .eq 796, 3) := by decide +kernel
theorem dW_law_637 : decode mW_law.2.1 637 = .ok (.iconst 0, 1) := by decide +kernel
theorem dW_law_638 : decode mW_law.2.1 638 = .ok (.ireturn, 1) := by decide +kernel
theorem dW_law_639 : decode mW_law.2.1 639 = .ok (.aload_n 1, 1) := by decide +kernel
theorem dW_law_640 : decode mW_law.2.1 640 = .ok (.aload_n 0, 1) := by decide +kernel
theorem dW_law_641 : decode mW_law.2.1 641 = .ok (.iload_n 3, 1) := by decide +kernel
theorem dW_law_642 : decode mW_law.2.1 642 = .ok (.iconst 1, 1) := by decide +kernel
theorem dW_law_643 : decode mW_law.2.1 643 = .ok (.iadd, 1) := by decide +kernel
theorem dW_law_644 : decode mW_law.2.1 644 = .ok (.iaload, 1) := by decide +kernel
theorem dW_law_645 : decode mW_law.2.1 645 = .ok (.invokevirtual 79, 3) := by decide +kernel
theorem dW_law_648 : decode mW_law.2.1 648 = .ok (.aload_n 2, 1) := by decide +kernel
theorem dW_law_649 : decode mW_law.2.1 649 = .ok (.aload_n 0, 1) := by decide +kernel
theorem dW_law_650 : decode mW_law.2.1 650 = .ok (.iload_n 3, 1) := by decide +kernel
theorem dW_law_651 : decode mW_law.2.1 651 = .ok (.iconst 1, 1) := by decide +kernel
theorem dW_law_652 : decode mW_law.2.1 652 = .ok (.iadd, 1) := by decide +kernel
theorem dW_law_653 : decode mW_law.2.1 653 = .ok (.iaload, 1) := by decide +kernel
theorem dW_law_654 : decode mW_law.2.1 654 = .ok (.invokevirtual 82, 3) := by decide +kernel
theorem dW_law_657 : decode mW_law.2.1 657 = .ok (.lcmp, 1) := by decide +kernel
theorem dW_law_658 : decode mW_law.2.1 658 = .ok (.ifCond .eq 772, 3) := by decide +kernel
theorem dW_law_661 : decode mW_law.2.1 661 = .ok (.iconst 0, 1) := by decide +kernel
theorem dW_law_662 : decode mW_law.2.1 662 = .ok (.ireturn, 1) := by decide +kernel
theorem dW_law_663 : decode mW_law.2.1 663 = .ok (.aload_n 1, 1) := by decide +kernel
theorem dW_law_664 : decode mW_law.2.1 664 = .ok (.aload_n 0, 1) := by decide +kernel
theorem dW_law_665 : decode mW_law.2.1 665 = .ok (.iload_n 3, 1) := by decide +kernel
theorem dW_law_666 : decode mW_law.2.1 666 = .ok (.iconst 1, 1) := by decide +kernel
theorem dW_law_667 : decode mW_law.2.1 667 = .ok (.iadd, 1) := by decide +kernel
theorem dW_law_668 : decode mW_law.2.1 668 = .ok (.iaload, 1) := by decide +kernel
theorem dW_law_669 : decode mW_law.2.1 669 = .ok (.aload_n 0, 1) := by decide +kernel
theorem dW_law_670 : decode mW_law.2.1 670 = .ok (.iload_n 3, 1) := by decide +kernel
theorem dW_law_671 : decode mW_law.2.1 671 = .ok (.iconst 2, 1) := by decide +kernel
theorem dW_law_672 : decode mW_law.2.1 672 = .ok (.iadd, 1) := by decide +kernel
theorem dW_law_673 : decode mW_law.2.1 673 = .ok (.iaload, 1) := by decide +kernel
theorem dW_law_674 : decode mW_law.2.1 674 = .ok (.aload_n 0, 1) := by decide +kernel
theorem dW_law_675 : decode mW_law.2.1 675 = .ok (.iload_n 3, 1) := by decide +kernel
theorem dW_law_676 : decode mW_law.2.1 676 = .ok (.iconst 3, 1) := by decide +kernel
theorem dW_law_677 : decode mW_law.2.1 677 = .ok (.iadd, 1) := by decide +kernel
theorem dW_law_678 : decode mW_law.2.1 678 = .ok (.iaload, 1) := by decide +kernel
theorem dW_law_679 : decode mW_law.2.1 679 = .ok (.invokevirtual 83, 3) := by decide +kernel
theorem dW_law_682 : decode mW_law.2.1 682 = .ok (.aload_n 2, 1) := by decide +kernel
theorem dW_law_683 : decode mW_law.2.1 683 = .ok (.aload_n 0, 1) := by decide +kernel
theorem dW_law_684 : decode mW_law.2.1 684 = .ok (.iload_n 3, 1) := by decide +kernel
theorem dW_law_685 : decode mW_law.2.1 685 = .ok (.iconst 1, 1) := by decide +kernel
theorem dW_law_686 : decode mW_law.2.1 686 = .ok (.iadd, 1) := by decide +kernel
theorem dW_law_687 : decode mW_law.2.1 687 = .ok (.iaload, 1) := by decide +kernel
theorem dW_law_688 : decode mW_law.2.1 688 = .ok (.aload_n 0, 1) := by decide +kernel
theorem dW_law_689 : decode mW_law.2.1 689 = .ok (.iload_n 3, 1) := by decide +kernel
theorem dW_law_690 : decode mW_law.2.1 690 = .ok (.iconst 2, 1) := by decide +kernel
theorem dW_law_691 : decode mW_law.2.1 691 = .ok (.iadd, 1) := by decide +kernel
theorem dW_law_692 : decode mW_law.2.1 692 = .ok (.iaload, 1) := by decide +kernel
theorem dW_law_693 : decode mW_law.2.1 693 = .ok (.aload_n 0, 1) := by decide +kernel
theorem dW_law_694 : decode mW_law.2.1 694 = .ok (.iload_n 3, 1) := by decide +kernel
theorem dW_law_695 : decode mW_law.2.1 695 = .ok (.iconst 3, 1) := by decide +kernel
theorem dW_law_696 : decode mW_law.2.1 696 = .ok (.iadd, 1) := by decide +kernel
theorem dW_law_697 : decode mW_law.2.1 697 = .ok (.iaload, 1) := by decide +kernel
theorem dW_law_698 : decode mW_law.2.1 698 = .ok (.invokevirtual 87, 3) := by decide +kernel
theorem dW_law_701 : decode mW_law.2.1 701 = .ok (.lcmp, 1) := by decide +kernel
theorem dW_law_702 : decode mW_law.2.1 702 = .ok (.ifCond .eq 728, 3) := by decide +kernel
theorem dW_law_705 : decode mW_law.2.1 705 = .ok (.iconst 0, 1) := by decide +kernel
theorem dW_law_706 : decode mW_law.2.1 706 = .ok (.ireturn, 1) := by decide +kernel
theorem dW_law_707 : decode mW_law.2.1 707 = .ok (.aload_n 1, 1) := by decide +kernel
theorem dW_law_708 : decode mW_law.2.1 708 = .ok (.aload_n 0, 1) := by decide +kernel
theorem dW_law_709 : decode mW_law.2.1 709 = .ok (.iload_n 3, 1) := by decide +kernel
theorem dW_law_710 : decode mW_law.2.1 710 = .ok (.iconst 1, 1) := by decide +kernel
theorem dW_law_711 : decode mW_law.2.1 711 = .ok (.iadd, 1) := by decide +kernel
theorem dW_law_712 : decode mW_law.2.1 712 = .ok (.iaload, 1) := by decide +kernel
theorem dW_law_713 : decode mW_law.2.1 713 = .ok (.invokevirtual 88, 3) := by decide +kernel
theorem dW_law_716 : decode mW_law.2.1 716 = .ok (.aload_n 2, 1) := by decide +kernel
theorem dW_law_717 : decode mW_law.2.1 717 = .ok (.aload_n 0, 1) := by decide +kernel
theorem dW_law_718 : decode mW_law.2.1 718 = .ok (.iload_n 3, 1) := by decide +kernel
theorem dW_law_719 : decode mW_law.2.1 719 = .ok (.iconst 1, 1) := by decide +kernel
theorem dW_law_720 : decode mW_law.2.1 720 = .ok (.iadd, 1) := by decide +kernel
theorem dW_law_721 : decode mW_law.2.1 721 = .ok (.iaload, 1) := by decide +kernel
theorem dW_law_722 : decode mW_law.2.1 722 = .ok (.invokevirtual 91, 3) := by decide +kernel
theorem dW_law_725 : decode mW_law.2.1 725 = .ok (.if_icmp .eq 705, 3) := by decide +kernel
theorem dW_law_728 : decode mW_law.2.1 728 = .ok (.iconst 0, 1) := by decide +kernel
theorem dW_law_729 : decode mW_law.2.1 729 = .ok (.ireturn, 1) := by decide +kernel
theorem dW_law_730 : decode mW_law.2.1 730 = .ok (.aload_n 1, 1) := by decide +kernel
theorem dW_law_731 : decode mW_law.2.1 731 = .ok (.aload_n 0, 1) := by decide +kernel
theorem dW_law_732 : decode mW_law.2.1 732 = .ok (.iload_n 3, 1) := by decide +kernel
theorem dW_law_733 : decode mW_law.2.1 733 = .ok (.iconst 1, 1) := by decide +kernel
theorem dW_law_734 : decode mW_law.2.1 734 = .ok (.iadd, 1) := by decide +kernel
theorem dW_law_735 : decode mW_law.2.1 735 = .ok (.iaload, 1) := by decide +kernel
theorem dW_law_736 : decode mW_law.2.1 736 = .ok (.invokevirtual 92, 3) := by decide +kernel
theorem dW_law_739 : decode mW_law.2.1 739 = .ok (.aload_n 2, 1) := by decide +kernel
theorem dW_law_740 : decode mW_law.2.1 740 = .ok (.aload_n 0, 1) := by decide +kernel
theorem dW_law_741 : decode mW_law.2.1 741 = .ok (.iload_n 3, 1) := by decide +kernel
theorem dW_law_742 : decode mW_law.2.1 742 = .ok (.iconst 1, 1) := by decide +kernel
theorem dW_law_743 : decode mW_law.2.1 743 = .ok (.iadd, 1) := by decide +kernel
theorem dW_law_744 : decode mW_law.2.1 744 = .ok (.iaload, 1) := by decide +kernel
theorem dW_law_745 : decode mW_law.2.1 745 = .ok (.invokevirtual 95, 3) := by decide +kernel
theorem dW_law_748 : decode mW_law.2.1 748 = .ok (.if_icmp .eq 682, 3) := by decide +kernel
theorem dW_law_751 : decode mW_law.2.1 751 = .ok (.iconst 0, 1) := by decide +kernel
theorem dW_law_752 : decode mW_law.2.1 752 = .ok (.ireturn, 1) := by decide +kernel
theorem dW_law_753 : decode mW_law.2.1 753 = .ok (.aload_n 1, 1) := by decide +kernel
theorem dW_law_754 : decode mW_law.2.1 754 = .ok (.aload_n 0, 1) := by decide +kernel
theorem dW_law_755 : decode mW_law.2.1 755 = .ok (.iload_n 3, 1) := by decide +kernel
theorem dW_law_756 : decode mW_law.2.1 756 = .ok (.iconst 1, 1) := by decide +kernel
theorem dW_law_757 : decode mW_law.2.1 757 = .ok (.iadd, 1) := by decide +kernel
theorem dW_law_758 : decode mW_law.2.1 758 = .ok (.iaload, 1) := by decide +kernel
theorem dW_law_759 : decode mW_law.2.1 759 = .ok (.aload_n 0, 1) := by decide +kernel
theorem dW_law_760 : decode mW_law.2.1 760 = .ok (.iload_n 3, 1) := by decide +kernel
theorem dW_law_761 : decode mW_law.2.1 761 = .ok (.iconst 2, 1) := by decide +kernel
theorem dW_law_762 : decode mW_law.2.1 762 = .ok (.iadd, 1) := by decide +kernel
theorem dW_law_763 : decode mW_law.2.1 763 = .ok (.iaload, 1) := by decide +kernel
theorem dW_law_764 : decode mW_law.2.1 764 = .ok (.invokevirtual 96, 3) := by decide +kernel
theorem dW_law_767 : decode mW_law.2.1 767 = .ok (.aload_n 2, 1) := by decide +kernel
theorem dW_law_768 : decode mW_law.2.1 768 = .ok (.aload_n 0, 1) := by decide +kernel
theorem dW_law_769 : decode mW_law.2.1 769 = .ok (.iload_n 3, 1) := by decide +kernel
theorem dW_law_770 : decode mW_law.2.1 770 = .ok (.iconst 1, 1) := by decide +kernel
theorem dW_law_771 : decode mW_law.2.1 771 = .ok (.iadd, 1) := by decide +kernel
theorem dW_law_772 : decode mW_law.2.1 772 = .ok (.iaload, 1) := by decide +kernel
theorem dW_law_773 : decode mW_law.2.1 773 = .ok (.aload_n 0, 1) := by decide +kernel
theorem dW_law_774 : decode mW_law.2.1 774 = .ok (.iload_n 3, 1) := by decide +kernel
theorem dW_law_775 : decode mW_law.2.1 775 = .ok (.iconst 2, 1) := by decide +kernel
theorem dW_law_776 : decode mW_law.2.1 776 = .ok (.iadd, 1) := by decide +kernel
theorem dW_law_777 : decode mW_law.2.1 777 = .ok (.iaload, 1) := by decide +kernel
theorem dW_law_778 : decode mW_law.2.1 778 = .ok (.invokevirtual 99, 3) := by decide +kernel
theorem dW_law_781 : decode mW_law.2.1 781 = .ok (.if_icmp .eq 649, 3) := by decide +kernel
theorem dW_law_784 : decode mW_law.2.1 784 = .ok (.iconst 0, 1) := by decide +kernel
theorem dW_law_785 : decode mW_law.2.1 785 = .ok (.ireturn, 1) := by decide +kernel
theorem dW_law_786 : decode mW_law.2.1 786 = .ok (.aload_n 1, 1) := by decide +kernel
theorem dW_law_787 : decode mW_law.2.1 787 = .ok (.aload_n 0, 1) := by decide +kernel
theorem dW_law_788 : decode mW_law.2.1 788 = .ok (.iload_n 3, 1) := by decide +kernel
theorem dW_law_789 : decode mW_law.2.1 789 = .ok (.iconst 1, 1) := by decide +kernel
theorem dW_law_790 : decode mW_law.2.1 790 = .ok (.iadd, 1) := by decide +kernel
theorem dW_law_791 : decode mW_law.2.1 791 = .ok (.iaload, 1) := by decide +kernel
theorem dW_law_792 : decode mW_law.2.1 792 = .ok (.invokevirtual 100, 3) := by decide +kernel
theorem dW_law_795 : decode mW_law.2.1 795 = .ok (.aload_n 2, 1) := by decide +kernel
theorem dW_law_796 : decode mW_law.2.1 796 = .ok (.aload_n 0, 1) := by decide +kernel
theorem dW_law_797 : decode mW_law.2.1 797 = .ok (.iload_n 3, 1) := by decide +kernel
theorem dW_law_798 : decode mW_law.2.1 798 = .ok (.iconst 1, 1) := by decide +kernel
theorem dW_law_799 : decode mW_law.2.1 799 = .ok (.iadd, 1) := by decide +kernel
theorem dW_law_800 : decode mW_law.2.1 800 = .ok (.iaload, 1) := by decide +kernel
theorem dW_law_801 : decode mW_law.2.1 801 = .ok (.invokevirtual 103, 3) := by decide +kernel
theorem dW_law_804 : decode mW_law.2.1 804 = .ok (.if_icmp .eq 626, 3) := by decide +kernel
theorem dW_law_807 : decode mW_law.2.1 807 = .ok (.iconst 0, 1) := by decide +kernel
theorem dW_law_808 : decode mW_law.2.1 808 = .ok (.ireturn, 1) := by decide +kernel
theorem dW_law_809 : decode mW_law.2.1 809 = .ok (.aload_n 1, 1) := by decide +kernel
theorem dW_law_810 : decode mW_law.2.1 810 = .ok (.aload_n 0, 1) := by decide +kernel
theorem dW_law_811 : decode mW_law.2.1 811 = .ok (.iload_n 3, 1) := by decide +kernel
theorem dW_law_812 : decode mW_law.2.1 812 = .ok (.iconst 1, 1) := by decide +kernel
theorem dW_law_813 : decode mW_law.2.1 813 = .ok (.iadd, 1) := by decide +kernel
theorem dW_law_814 : decode mW_law.2.1 814 = .ok (.iaload, 1) := by decide +kernel
theorem dW_law_815 : decode mW_law.2.1 815 = .ok (.aload_n 0, 1) := by decide +kernel
theorem dW_law_816 : decode mW_law.2.1 816 = .ok (.iload_n 3, 1) := by decide +kernel
theorem dW_law_817 : decode mW_law.2.1 817 = .ok (.iconst 2, 1) := by decide +kernel
theorem dW_law_818 : decode mW_law.2.1 818 = .ok (.iadd, 1) := by decide +kernel
theorem dW_law_819 : decode mW_law.2.1 819 = .ok (.iaload, 1) := by decide +kernel
theorem dW_law_820 : decode mW_law.2.1 820 = .ok (.invokevirtual 104, 3) := by decide +kernel
theorem dW_law_823 : decode mW_law.2.1 823 = .ok (.aload_n 2, 1) := by decide +kernel
theorem dW_law_824 : decode mW_law.2.1 824 = .ok (.aload_n 0, 1) := by decide +kernel
theorem dW_law_825 : decode mW_law.2.1 825 = .ok (.iload_n 3, 1) := by decide +kernel
theorem dW_law_826 : decode mW_law.2.1 826 = .ok (.iconst 1, 1) := by decide +kernel
theorem dW_law_827 : decode mW_law.2.1 827 = .ok (.iadd, 1) := by decide +kernel
theorem dW_law_828 : decode mW_law.2.1 828 = .ok (.iaload, 1) := by decide +kernel
theorem dW_law_829 : decode mW_law.2.1 829 = .ok (.aload_n 0, 1) := by decide +kernel
theorem dW_law_830 : decode mW_law.2.1 830 = .ok (.iload_n 3, 1) := by decide +kernel
theorem dW_law_831 : decode mW_law.2.1 831 = .ok (.iconst 2, 1) := by decide +kernel
theorem dW_law_832 : decode mW_law.2.1 832 = .ok (.iadd, 1) := by decide +kernel
theorem dW_law_833 : decode mW_law.2.1 833 = .ok (.iaload, 1) := by decide +kernel
theorem dW_law_834 : decode mW_law.2.1 834 = .ok (.invokevirtual 107, 3) := by decide +kernel
theorem dW_law_837 : decode mW_law.2.1 837 = .ok (.if_icmp .eq 593, 3) := by decide +kernel
theorem dW_law_840 : decode mW_law.2.1 840 = .ok (.iconst 0, 1) := by decide +kernel
theorem dW_law_841 : decode mW_law.2.1 841 = .ok (.ireturn, 1) := by decide +kernel
theorem dW_law_842 : decode mW_law.2.1 842 = .ok (.aload_n 1, 1) := by decide +kernel
theorem dW_law_843 : decode mW_law.2.1 843 = .ok (.aload_n 0, 1) := by decide +kernel
theorem dW_law_844 : decode mW_law.2.1 844 = .ok (.iload_n 3, 1) := by decide +kernel
theorem dW_law_845 : decode mW_law.2.1 845 = .ok (.iconst 1, 1) := by decide +kernel
theorem dW_law_846 : decode mW_law.2.1 846 = .ok (.iadd, 1) := by decide +kernel
theorem dW_law_847 : decode mW_law.2.1 847 = .ok (.iaload, 1) := by decide +kernel
theorem dW_law_848 : decode mW_law.2.1 848 = .ok (.aload_n 0, 1) := by decide +kernel
theorem dW_law_849 : decode mW_law.2.1 849 = .ok (.iload_n 3, 1) := by decide +kernel
theorem dW_law_850 : decode mW_law.2.1 850 = .ok (.iconst 2, 1) := by decide +kernel
theorem dW_law_851 : decode mW_law.2.1 851 = .ok (.iadd, 1) := by decide +kernel
theorem dW_law_852 : decode mW_law.2.1 852 = .ok (.iaload, 1) := by decide +kernel
theorem dW_law_853 : decode mW_law.2.1 853 = .ok (.invokevirtual 108, 3) := by decide +kernel
theorem dW_law_856 : decode mW_law.2.1 856 = .ok (.aload_n 2, 1) := by decide +kernel
theorem dW_law_857 : decode mW_law.2.1 857 = .ok (.aload_n 0, 1) := by decide +kernel
theorem dW_law_858 : decode mW_law.2.1 858 = .ok (.iload_n 3, 1) := by decide +kernel
theorem dW_law_859 : decode mW_law.2.1 859 = .ok (.iconst 1, 1) := by decide +kernel
theorem dW_law_860 : decode mW_law.2.1 860 = .ok (.iadd, 1) := by decide +kernel
theorem dW_law_861 : decode mW_law.2.1 861 = .ok (.iaload, 1) := by decide +kernel
theorem dW_law_862 : decode mW_law.2.1 862 = .ok (.aload_n 0, 1) := by decide +kernel
theorem dW_law_863 : decode mW_law.2.1 863 = .ok (.iload_n 3, 1) := by decide +kernel
theorem dW_law_864 : decode mW_law.2.1 864 = .ok (.iconst 2, 1) := by decide +kernel
theorem dW_law_865 : decode mW_law.2.1 865 = .ok (.iadd, 1) := by decide +kernel
theorem dW_law_866 : decode mW_law.2.1 866 = .ok (.iaload, 1) := by decide +kernel
theorem dW_law_867 : decode mW_law.2.1 867 = .ok (.invokevirtual 111, 3) := by decide +kernel
theorem dW_law_870 : decode mW_law.2.1 870 = .ok (.if_icmp .eq 560, 3) := by decide +kernel
theorem dW_law_873 : decode mW_law.2.1 873 = .ok (.iconst 0, 1) := by decide +kernel
theorem dW_law_874 : decode mW_law.2.1 874 = .ok (.ireturn, 1) := by decide +kernel
theorem dW_law_875 : decode mW_law.2.1 875 = .ok (.aload_n 1, 1) := by decide +kernel
theorem dW_law_876 : decode mW_law.2.1 876 = .ok (.aload_n 0, 1) := by decide +kernel
theorem dW_law_877 : decode mW_law.2.1 877 = .ok (.iload_n 3, 1) := by decide +kernel
theorem dW_law_878 : decode mW_law.2.1 878 = .ok (.iconst 1, 1) := by decide +kernel
theorem dW_law_879 : decode mW_law.2.1 879 = .ok (.iadd, 1) := by decide +kernel
theorem dW_law_880 : decode mW_law.2.1 880 = .ok (.iaload, 1) := by decide +kernel
theorem dW_law_881 : decode mW_law.2.1 881 = .ok (.aload_n 0, 1) := by decide +kernel
theorem dW_law_882 : decode mW_law.2.1 882 = .ok (.iload_n 3, 1) := by decide +kernel
theorem dW_law_883 : decode mW_law.2.1 883 = .ok (.iconst 2, 1) := by decide +kernel
theorem dW_law_884 : decode mW_law.2.1 884 = .ok (.iadd, 1) := by decide +kernel
theorem dW_law_885 : decode mW_law.2.1 885 = .ok (.iaload, 1) := by decide +kernel
theorem dW_law_886 : decode mW_law.2.1 886 = .ok (.aload_n 0, 1) := by decide +kernel
theorem dW_law_887 : decode mW_law.2.1 887 = .ok (.iload_n 3, 1) := by decide +kernel
theorem dW_law_888 : decode mW_law.2.1 888 = .ok (.iconst 3, 1) := by decide +kernel
theorem dW_law_889 : decode mW_law.2.1 889 = .ok (.iadd, 1) := by decide +kernel
theorem dW_law_890 : decode mW_law.2.1 890 = .ok (.iaload, 1) := by decide +kernel
theorem dW_law_891 : decode mW_law.2.1 891 = .ok (.invokevirtual 112, 3) := by decide +kernel
theorem dW_law_894 : decode mW_law.2.1 894 = .ok (.aload_n 2, 1) := by decide +kernel
theorem dW_law_895 : decode mW_law.2.1 895 = .ok (.aload_n 0, 1) := by decide +kernel
theorem dW_law_896 : decode mW_law.2.1 896 = .ok (.iload_n 3, 1) := by decide +kernel
theorem dW_law_897 : decode mW_law.2.1 897 = .ok (.iconst 1, 1) := by decide +kernel
theorem dW_law_898 : decode mW_law.2.1 898 = .ok (.iadd, 1) := by decide +kernel
theorem dW_law_899 : decode mW_law.2.1 899 = .ok (.iaload, 1) := by decide +kernel
theorem dW_law_900 : decode mW_law.2.1 900 = .ok (.aload_n 0, 1) := by decide +kernel
theorem dW_law_901 : decode mW_law.2.1 901 = .ok (.iload_n 3, 1) := by decide +kernel
theorem dW_law_902 : decode mW_law.2.1 902 = .ok (.iconst 2, 1) := by decide +kernel
theorem dW_law_903 : decode mW_law.2.1 903 = .ok (.iadd, 1) := by decide +kernel
theorem dW_law_904 : decode mW_law.2.1 904 = .ok (.iaload, 1) := by decide +kernel
theorem dW_law_905 : decode mW_law.2.1 905 = .ok (.aload_n 0, 1) := by decide +kernel
theorem dW_law_906 : decode mW_law.2.1 906 = .ok (.iload_n 3, 1) := by decide +kernel
theorem dW_law_907 : decode mW_law.2.1 907 = .ok (.iconst 3, 1) := by decide +kernel
theorem dW_law_908 : decode mW_law.2.1 908 = .ok (.iadd, 1) := by decide +kernel
theorem dW_law_909 : decode mW_law.2.1 909 = .ok (.iaload, 1) := by decide +kernel
theorem dW_law_910 : decode mW_law.2.1 910 = .ok (.invokevirtual 115, 3) := by decide +kernel
theorem dW_law_913 : decode mW_law.2.1 913 = .ok (.if_icmp .eq 517, 3) := by decide +kernel
theorem dW_law_916 : decode mW_law.2.1 916 = .ok (.iconst 0, 1) := by decide +kernel
theorem dW_law_917 : decode mW_law.2.1 917 = .ok (.ireturn, 1) := by decide +kernel
theorem dW_law_918 : decode mW_law.2.1 918 = .ok (.aload_n 1, 1) := by decide +kernel
theorem dW_law_919 : decode mW_law.2.1 919 = .ok (.aload_n 0, 1) := by decide +kernel
theorem dW_law_920 : decode mW_law.2.1 920 = .ok (.iload_n 3, 1) := by decide +kernel
theorem dW_law_921 : decode mW_law.2.1 921 = .ok (.iconst 1, 1) := by decide +kernel
theorem dW_law_922 : decode mW_law.2.1 922 = .ok (.iadd, 1) := by decide +kernel
theorem dW_law_923 : decode mW_law.2.1 923 = .ok (.iaload, 1) := by decide +kernel
theorem dW_law_924 : decode mW_law.2.1 924 = .ok (.invokevirtual 116, 3) := by decide +kernel
theorem dW_law_927 : decode mW_law.2.1 927 = .ok (.aload_n 2, 1) := by decide +kernel
theorem dW_law_928 : decode mW_law.2.1 928 = .ok (.aload_n 0, 1) := by decide +kernel
theorem dW_law_929 : decode mW_law.2.1 929 = .ok (.iload_n 3, 1) := by decide +kernel
theorem dW_law_930 : decode mW_law.2.1 930 = .ok (.iconst 1, 1) := by decide +kernel
theorem dW_law_931 : decode mW_law.2.1 931 = .ok (.iadd, 1) := by decide +kernel
theorem dW_law_932 : decode mW_law.2.1 932 = .ok (.iaload, 1) := by decide +kernel
theorem dW_law_933 : decode mW_law.2.1 933 = .ok (.invokevirtual 119, 3) := by decide +kernel
theorem dW_law_936 : decode mW_law.2.1 936 = .ok (.if_icmp .eq 494, 3) := by decide +kernel
theorem dW_law_939 : decode mW_law.2.1 939 = .ok (.iconst 0, 1) := by decide +kernel
theorem dW_law_940 : decode mW_law.2.1 940 = .ok (.ireturn, 1) := by decide +kernel
theorem dW_law_941 : decode mW_law.2.1 941 = .ok (.aload_n 1, 1) := by decide +kernel
theorem dW_law_942 : decode mW_law.2.1 942 = .ok (.aload_n 0, 1) := by decide +kernel
theorem dW_law_943 : decode mW_law.2.1 943 = .ok (.iload_n 3, 1) := by decide +kernel
theorem dW_law_944 : decode mW_law.2.1 944 = .ok (.iconst 1, 1) := by decide +kernel
theorem dW_law_945 : decode mW_law.2.1 945 = .ok (.iadd, 1) := by decide +kernel
theorem dW_law_946 : decode mW_law.2.1 946 = .ok (.iaload, 1) := by decide +kernel
theorem dW_law_947 : decode mW_law.2.1 947 = .ok (.invokevirtual 120, 3) := by decide +kernel
theorem dW_law_950 : decode mW_law.2.1 950 = .ok (.aload_n 2, 1) := by decide +kernel
theorem dW_law_951 : decode mW_law.2.1 951 = .ok (.aload_n 0, 1) := by decide +kernel
theorem dW_law_952 : decode mW_law.2.1 952 = .ok (.iload_n 3, 1) := by decide +kernel
theorem dW_law_953 : decode mW_law.2.1 953 = .ok (.iconst 1, 1) := by decide +kernel
theorem dW_law_954 : decode mW_law.2.1 954 = .ok (.iadd, 1) := by decide +kernel
theorem dW_law_955 : decode mW_law.2.1 955 = .ok (.iaload, 1) := by decide +kernel
theorem dW_law_956 : decode mW_law.2.1 956 = .ok (.invokevirtual 123, 3) := by decide +kernel
theorem dW_law_959 : decode mW_law.2.1 959 = .ok (.if_icmp .eq 471, 3) := by decide +kernel
theorem dW_law_962 : decode mW_law.2.1 962 = .ok (.iconst 0, 1) := by decide +kernel
theorem dW_law_963 : decode mW_law.2.1 963 = .ok (.ireturn, 1) := by decide +kernel
theorem dW_law_964 : decode mW_law.2.1 964 = .ok (.aload_n 1, 1) := by decide +kernel
theorem dW_law_965 : decode mW_law.2.1 965 = .ok (.aload_n 0, 1) := by decide +kernel
theorem dW_law_966 : decode mW_law.2.1 966 = .ok (.iload_n 3, 1) := by decide +kernel
theorem dW_law_967 : decode mW_law.2.1 967 = .ok (.iconst 1, 1) := by decide +kernel
theorem dW_law_968 : decode mW_law.2.1 968 = .ok (.iadd, 1) := by decide +kernel
theorem dW_law_969 : decode mW_law.2.1 969 = .ok (.iaload, 1) := by decide +kernel
theorem dW_law_970 : decode mW_law.2.1 970 = .ok (.invokevirtual 124, 3) := by decide +kernel
theorem dW_law_973 : decode mW_law.2.1 973 = .ok (.aload_n 2, 1) := by decide +kernel
theorem dW_law_974 : decode mW_law.2.1 974 = .ok (.aload_n 0, 1) := by decide +kernel
theorem dW_law_975 : decode mW_law.2.1 975 = .ok (.iload_n 3, 1) := by decide +kernel
theorem dW_law_976 : decode mW_law.2.1 976 = .ok (.iconst 1, 1) := by decide +kernel
theorem dW_law_977 : decode mW_law.2.1 977 = .ok (.iadd, 1) := by decide +kernel
theorem dW_law_978 : decode mW_law.2.1 978 = .ok (.iaload, 1) := by decide +kernel
theorem dW_law_979 : decode mW_law.2.1 979 = .ok (.invokevirtual 127, 3) := by decide +kernel
theorem dW_law_982 : decode mW_law.2.1 982 = .ok (.if_icmp .eq 448, 3) := by decide +kernel
theorem dW_law_985 : decode mW_law.2.1 985 = .ok (.iconst 0, 1) := by decide +kernel
theorem dW_law_986 : decode mW_law.2.1 986 = .ok (.ireturn, 1) := by decide +kernel
theorem dW_law_987 : decode mW_law.2.1 987 = .ok (.aload_n 1, 1) := by decide +kernel
theorem dW_law_988 : decode mW_law.2.1 988 = .ok (.invokevirtual 128, 3) := by decide +kernel
theorem dW_law_991 : decode mW_law.2.1 991 = .ok (.aload_n 2, 1) := by decide +kernel
theorem dW_law_992 : decode mW_law.2.1 992 = .ok (.invokevirtual 131, 3) := by decide +kernel
theorem dW_law_995 : decode mW_law.2.1 995 = .ok (.if_icmp .eq 435, 3) := by decide +kernel
theorem dW_law_998 : decode mW_law.2.1 998 = .ok (.iconst 0, 1) := by decide +kernel
theorem dW_law_999 : decode mW_law.2.1 999 = .ok (.ireturn, 1) := by decide +kernel
theorem dW_law_1000 : decode mW_law.2.1 1000 = .ok (.aload_n 1, 1) := by decide +kernel
theorem dW_law_1001 : decode mW_law.2.1 1001 = .ok (.invokevirtual 132, 3) := by decide +kernel
theorem dW_law_1004 : decode mW_law.2.1 1004 = .ok (.aload_n 2, 1) := by decide +kernel
theorem dW_law_1005 : decode mW_law.2.1 1005 = .ok (.invokevirtual 135, 3) := by decide +kernel
theorem dW_law_1008 : decode mW_law.2.1 1008 = .ok (.if_icmp .eq 422, 3) := by decide +kernel
theorem dW_law_1011 : decode mW_law.2.1 1011 = .ok (.iconst 0, 1) := by decide +kernel
theorem dW_law_1012 : decode mW_law.2.1 1012 = .ok (.ireturn, 1) := by decide +kernel
theorem dW_law_1013 : decode mW_law.2.1 1013 = .ok (.aload_n 1, 1) := by decide +kernel
theorem dW_law_1014 : decode mW_law.2.1 1014 = .ok (.invokevirtual 136, 3) := by decide +kernel
theorem dW_law_1017 : decode mW_law.2.1 1017 = .ok (.aload_n 2, 1) := by decide +kernel
theorem dW_law_1018 : decode mW_law.2.1 1018 = .ok (.invokevirtual 139, 3) := by decide +kernel
theorem dW_law_1021 : decode mW_law.2.1 1021 = .ok (.if_icmp .eq 409, 3) := by decide +kernel
theorem dW_law_1024 : decode mW_law.2.1 1024 = .ok (.iconst 0, 1) := by decide +kernel
theorem dW_law_1025 : decode mW_law.2.1 1025 = .ok (.ireturn, 1) := by decide +kernel
theorem dW_law_1026 : decode mW_law.2.1 1026 = .ok (.aload_n 1, 1) := by decide +kernel
theorem dW_law_1027 : decode mW_law.2.1 1027 = .ok (.invokevirtual 140, 3) := by decide +kernel
theorem dW_law_1030 : decode mW_law.2.1 1030 = .ok (.aload_n 2, 1) := by decide +kernel
theorem dW_law_1031 : decode mW_law.2.1 1031 = .ok (.invokevirtual 143, 3) := by decide +kernel
theorem dW_law_1034 : decode mW_law.2.1 1034 = .ok (.if_icmp .eq 396, 3) := by decide +kernel
theorem dW_law_1037 : decode mW_law.2.1 1037 = .ok (.iconst 0, 1) := by decide +kernel
theorem dW_law_1038 : decode mW_law.2.1 1038 = .ok (.ireturn, 1) := by decide +kernel
theorem dW_law_1039 : decode mW_law.2.1 1039 = .ok (.aload_n 1, 1) := by decide +kernel
theorem dW_law_1040 : decode mW_law.2.1 1040 = .ok (.aload_n 0, 1) := by decide +kernel
theorem dW_law_1041 : decode mW_law.2.1 1041 = .ok (.iload_n 3, 1) := by decide +kernel
theorem dW_law_1042 : decode mW_law.2.1 1042 = .ok (.iconst 1, 1) := by decide +kernel
theorem dW_law_1043 : decode mW_law.2.1 1043 = .ok (.iadd, 1) := by decide +kernel
theorem dW_law_1044 : decode mW_law.2.1 1044 = .ok (.iaload, 1) := by decide +kernel
theorem dW_law_1045 : decode mW_law.2.1 1045 = .ok (.invokevirtual 144, 3) := by decide +kernel
theorem dW_law_1048 : decode mW_law.2.1 1048 = .ok (.aload_n 2, 1) := by decide +kernel
theorem dW_law_1049 : decode mW_law.2.1 1049 = .ok (.aload_n 0, 1) := by decide +kernel
theorem dW_law_1050 : decode mW_law.2.1 1050 = .ok (.iload_n 3, 1) := by decide +kernel
theorem dW_law_1051 : decode mW_law.2.1 1051 = .ok (.iconst 1, 1) := by decide +kernel
theorem dW_law_1052 : decode mW_law.2.1 1052 = .ok (.iadd, 1) := by decide +kernel
theorem dW_law_1053 : decode mW_law.2.1 1053 = .ok (.iaload, 1) := by decide +kernel
theorem dW_law_1054 : decode mW_law.2.1 1054 = .ok (.invokevirtual 147, 3) := by decide +kernel
theorem dW_law_1057 : decode mW_law.2.1 1057 = .ok (.if_icmp .eq 373, 3) := by decide +kernel
theorem dW_law_1060 : decode mW_law.2.1 1060 = .ok (.iconst 0, 1) := by decide +kernel
theorem dW_law_1061 : decode mW_law.2.1 1061 = .ok (.ireturn, 1) := by decide +kernel
theorem dW_law_1062 : decode mW_law.2.1 1062 = .ok (.aload_n 1, 1) := by decide +kernel
theorem dW_law_1063 : decode mW_law.2.1 1063 = .ok (.aload_n 0, 1) := by decide +kernel
theorem dW_law_1064 : decode mW_law.2.1 1064 = .ok (.iload_n 3, 1) := by decide +kernel
theorem dW_law_1065 : decode mW_law.2.1 1065 = .ok (.iconst 1, 1) := by decide +kernel
theorem dW_law_1066 : decode mW_law.2.1 1066 = .ok (.iadd, 1) := by decide +kernel
theorem dW_law_1067 : decode mW_law.2.1 1067 = .ok (.iaload, 1) := by decide +kernel
theorem dW_law_1068 : decode mW_law.2.1 1068 = .ok (.aload_n 0, 1) := by decide +kernel
theorem dW_law_1069 : decode mW_law.2.1 1069 = .ok (.iload_n 3, 1) := by decide +kernel
theorem dW_law_1070 : decode mW_law.2.1 1070 = .ok (.iconst 2, 1) := by decide +kernel
theorem dW_law_1071 : decode mW_law.2.1 1071 = .ok (.iadd, 1) := by decide +kernel
theorem dW_law_1072 : decode mW_law.2.1 1072 = .ok (.iaload, 1) := by decide +kernel
theorem dW_law_1073 : decode mW_law.2.1 1073 = .ok (.aload_n 0, 1) := by decide +kernel
theorem dW_law_1074 : decode mW_law.2.1 1074 = .ok (.iload_n 3, 1) := by decide +kernel
theorem dW_law_1075 : decode mW_law.2.1 1075 = .ok (.iconst 3, 1) := by decide +kernel
theorem dW_law_1076 : decode mW_law.2.1 1076 = .ok (.iadd, 1) := by decide +kernel
theorem dW_law_1077 : decode mW_law.2.1 1077 = .ok (.iaload, 1) := by decide +kernel
theorem dW_law_1078 : decode mW_law.2.1 1078 = .ok (.invokevirtual 148, 3) := by decide +kernel
theorem dW_law_1081 : decode mW_law.2.1 1081 = .ok (.aload_n 2, 1) := by decide +kernel
theorem dW_law_1082 : decode mW_law.2.1 1082 = .ok (.aload_n 0, 1) := by decide +kernel
theorem dW_law_1083 : decode mW_law.2.1 1083 = .ok (.iload_n 3, 1) := by decide +kernel
theorem dW_law_1084 : decode mW_law.2.1 1084 = .ok (.iconst 1, 1) := by decide +kernel
theorem dW_law_1085 : decode mW_law.2.1 1085 = .ok (.iadd, 1) := by decide +kernel
theorem dW_law_1086 : decode mW_law.2.1 1086 = .ok (.iaload, 1) := by decide +kernel
theorem dW_law_1087 : decode mW_law.2.1 1087 = .ok (.aload_n 0, 1) := by decide +kernel
theorem dW_law_1088 : decode mW_law.2.1 1088 = .ok (.iload_n 3, 1) := by decide +kernel
theorem dW_law_1089 : decode mW_law.2.1 1089 = .ok (.iconst 2, 1) := by decide +kernel
theorem dW_law_1090 : decode mW_law.2.1 1090 = .ok (.iadd, 1) := by decide +kernel
theorem dW_law_1091 : decode mW_law.2.1 1091 = .ok (.iaload, 1) := by decide +kernel
theorem dW_law_1092 : decode mW_law.2.1 1092 = .ok (.aload_n 0, 1) := by decide +kernel
theorem dW_law_1093 : decode mW_law.2.1 1093 = .ok (.iload_n 3, 1) := by decide +kernel
theorem dW_law_1094 : decode mW_law.2.1 1094 = .ok (.iconst 3, 1) := by decide +kernel
theorem dW_law_1095 : decode mW_law.2.1 1095 = .ok (.iadd, 1) := by decide +kernel
theorem dW_law_1096 : decode mW_law.2.1 1096 = .ok (.iaload, 1) := by decide +kernel
theorem dW_law_1097 : decode mW_law.2.1 1097 = .ok (.invokevirtual 151, 3) := by decide +kernel
theorem dW_law_1100 : decode mW_law.2.1 1100 = .ok (.if_icmp .eq 330, 3) := by decide +kernel
theorem dW_law_1103 : decode mW_law.2.1 1103 = .ok (.iconst 0, 1) := by decide +kernel
theorem dW_law_1104 : decode mW_law.2.1 1104 = .ok (.ireturn, 1) := by decide +kernel
theorem dW_law_1105 : decode mW_law.2.1 1105 = .ok (.aload_n 1, 1) := by decide +kernel
theorem dW_law_1106 : decode mW_law.2.1 1106 = .ok (.aload_n 0, 1) := by decide +kernel
theorem dW_law_1107 : decode mW_law.2.1 1107 = .ok (.iload_n 3, 1) := by decide +kernel
theorem dW_law_1108 : decode mW_law.2.1 1108 = .ok (.iconst 1, 1) := by decide +kernel
theorem dW_law_1109 : decode mW_law.2.1 1109 = .ok (.iadd, 1) := by decide +kernel
theorem dW_law_1110 : decode mW_law.2.1 1110 = .ok (.iaload, 1) := by decide +kernel
theorem dW_law_1111 : decode mW_law.2.1 1111 = .ok (.invokevirtual 152, 3) := by decide +kernel
theorem dW_law_1114 : decode mW_law.2.1 1114 = .ok (.aload_n 2, 1) := by decide +kernel
theorem dW_law_1115 : decode mW_law.2.1 1115 = .ok (.aload_n 0, 1) := by decide +kernel
theorem dW_law_1116 : decode mW_law.2.1 1116 = .ok (.iload_n 3, 1) := by decide +kernel
theorem dW_law_1117 : decode mW_law.2.1 1117 = .ok (.iconst 1, 1) := by decide +kernel
theorem dW_law_1118 : decode mW_law.2.1 1118 = .ok (.iadd, 1) := by decide +kernel
theorem dW_law_1119 : decode mW_law.2.1 1119 = .ok (.iaload, 1) := by decide +kernel
theorem dW_law_1120 : decode mW_law.2.1 1120 = .ok (.invokevirtual 155, 3) := by decide +kernel
theorem dW_law_1123 : decode mW_law.2.1 1123 = .ok (.if_icmp .eq 307, 3) := by decide +kernel
theorem dW_law_1126 : decode mW_law.2.1 1126 = .ok (.iconst 0, 1) := by decide +kernel
theorem dW_law_1127 : decode mW_law.2.1 1127 = .ok (.ireturn, 1) := by decide +kernel
theorem dW_law_1128 : decode mW_law.2.1 1128 = .ok (.aload_n 1, 1) := by decide +kernel
theorem dW_law_1129 : decode mW_law.2.1 1129 = .ok (.aload_n 0, 1) := by decide +kernel
theorem dW_law_1130 : decode mW_law.2.1 1130 = .ok (.iload_n 3, 1) := by decide +kernel
theorem dW_law_1131 : decode mW_law.2.1 1131 = .ok (.iconst 1, 1) := by decide +kernel
theorem dW_law_1132 : decode mW_law.2.1 1132 = .ok (.iadd, 1) := by decide +kernel
theorem dW_law_1133 : decode mW_law.2.1 1133 = .ok (.iaload, 1) := by decide +kernel
theorem dW_law_1134 : decode mW_law.2.1 1134 = .ok (.aload_n 0, 1) := by decide +kernel
theorem dW_law_1135 : decode mW_law.2.1 1135 = .ok (.iload_n 3, 1) := by decide +kernel
theorem dW_law_1136 : decode mW_law.2.1 1136 = .ok (.iconst 2, 1) := by decide +kernel
theorem dW_law_1137 : decode mW_law.2.1 1137 = .ok (.iadd, 1) := by decide +kernel
theorem dW_law_1138 : decode mW_law.2.1 1138 = .ok (.iaload, 1) := by decide +kernel
theorem dW_law_1139 : decode mW_law.2.1 1139 = .ok (.invokevirtual 156, 3) := by decide +kernel
theorem dW_law_1142 : decode mW_law.2.1 1142 = .ok (.aload_n 2, 1) := by decide +kernel
theorem dW_law_1143 : decode mW_law.2.1 1143 = .ok (.aload_n 0, 1) := by decide +kernel
theorem dW_law_1144 : decode mW_law.2.1 1144 = .ok (.iload_n 3, 1) := by decide +kernel
theorem dW_law_1145 : decode mW_law.2.1 1145 = .ok (.iconst 1, 1) := by decide +kernel
theorem dW_law_1146 : decode mW_law.2.1 1146 = .ok (.iadd, 1) := by decide +kernel
theorem dW_law_1147 : decode mW_law.2.1 1147 = .ok (.iaload, 1) := by decide +kernel
theorem dW_law_1148 : decode mW_law.2.1 1148 = .ok (.aload_n 0, 1) := by decide +kernel
theorem dW_law_1149 : decode mW_law.2.1 1149 = .ok (.iload_n 3, 1) := by decide +kernel
theorem dW_law_1150 : decode mW_law.2.1 1150 = .ok (.iconst 2, 1) := by decide +kernel
theorem dW_law_1151 : decode mW_law.2.1 1151 = .ok (.iadd, 1) := by decide +kernel
theorem dW_law_1152 : decode mW_law.2.1 1152 = .ok (.iaload, 1) := by decide +kernel
theorem dW_law_1153 : decode mW_law.2.1 1153 = .ok (.invokevirtual 159, 3) := by decide +kernel
theorem dW_law_1156 : decode mW_law.2.1 1156 = .ok (.if_icmp .eq 274, 3) := by decide +kernel
theorem dW_law_1159 : decode mW_law.2.1 1159 = .ok (.iconst 0, 1) := by decide +kernel
theorem dW_law_1160 : decode mW_law.2.1 1160 = .ok (.ireturn, 1) := by decide +kernel
theorem dW_law_1161 : decode mW_law.2.1 1161 = .ok (.aload_n 1, 1) := by decide +kernel
theorem dW_law_1162 : decode mW_law.2.1 1162 = .ok (.aload_n 0, 1) := by decide +kernel
theorem dW_law_1163 : decode mW_law.2.1 1163 = .ok (.iload_n 3, 1) := by decide +kernel
theorem dW_law_1164 : decode mW_law.2.1 1164 = .ok (.iconst 1, 1) := by decide +kernel
theorem dW_law_1165 : decode mW_law.2.1 1165 = .ok (.iadd, 1) := by decide +kernel
theorem dW_law_1166 : decode mW_law.2.1 1166 = .ok (.iaload, 1) := by decide +kernel
theorem dW_law_1167 : decode mW_law.2.1 1167 = .ok (.aload_n 0, 1) := by decide +kernel
theorem dW_law_1168 : decode mW_law.2.1 1168 = .ok (.iload_n 3, 1) := by decide +kernel
theorem dW_law_1169 : decode mW_law.2.1 1169 = .ok (.iconst 2, 1) := by decide +kernel
theorem dW_law_1170 : decode mW_law.2.1 1170 = .ok (.iadd, 1) := by decide +kernel
theorem dW_law_1171 : decode mW_law.2.1 1171 = .ok (.iaload, 1) := by decide +kernel
theorem dW_law_1172 : decode mW_law.2.1 1172 = .ok (.aload_n 0, 1) := by decide +kernel
theorem dW_law_1173 : decode mW_law.2.1 1173 = .ok (.iload_n 3, 1) := by decide +kernel
theorem dW_law_1174 : decode mW_law.2.1 1174 = .ok (.iconst 3, 1) := by decide +kernel
theorem dW_law_1175 : decode mW_law.2.1 1175 = .ok (.iadd, 1) := by decide +kernel
theorem dW_law_1176 : decode mW_law.2.1 1176 = .ok (.iaload, 1) := by decide +kernel
theorem dW_law_1177 : decode mW_law.2.1 1177 = .ok (.invokevirtual 160, 3) := by decide +kernel
theorem dW_law_1180 : decode mW_law.2.1 1180 = .ok (.aload_n 2, 1) := by decide +kernel
theorem dW_law_1181 : decode mW_law.2.1 1181 = .ok (.aload_n 0, 1) := by decide +kernel
theorem dW_law_1182 : decode mW_law.2.1 1182 = .ok (.iload_n 3, 1) := by decide +kernel
theorem dW_law_1183 : decode mW_law.2.1 1183 = .ok (.iconst 1, 1) := by decide +kernel
theorem dW_law_1184 : decode mW_law.2.1 1184 = .ok (.iadd, 1) := by decide +kernel
theorem dW_law_1185 : decode mW_law.2.1 1185 = .ok (.iaload, 1) := by decide +kernel
theorem dW_law_1186 : decode mW_law.2.1 1186 = .ok (.aload_n 0, 1) := by decide +kernel
theorem dW_law_1187 : decode mW_law.2.1 1187 = .ok (.iload_n 3, 1) := by decide +kernel
theorem dW_law_1188 : decode mW_law.2.1 1188 = .ok (.iconst 2, 1) := by decide +kernel
theorem dW_law_1189 : decode mW_law.2.1 1189 = .ok (.iadd, 1) := by decide +kernel
theorem dW_law_1190 : decode mW_law.2.1 1190 = .ok (.iaload, 1) := by decide +kernel
theorem dW_law_1191 : decode mW_law.2.1 1191 = .ok (.aload_n 0, 1) := by decide +kernel
theorem dW_law_1192 : decode mW_law.2.1 1192 = .ok (.iload_n 3, 1) := by decide +kernel
theorem dW_law_1193 : decode mW_law.2.1 1193 = .ok (.iconst 3, 1) := by decide +kernel
theorem dW_law_1194 : decode mW_law.2.1 1194 = .ok (.iadd, 1) := by decide +kernel
theorem dW_law_1195 : decode mW_law.2.1 1195 = .ok (.iaload, 1) := by decide +kernel
theorem dW_law_1196 : decode mW_law.2.1 1196 = .ok (.invokevirtual 163, 3) := by decide +kernel
theorem dW_law_1199 : decode mW_law.2.1 1199 = .ok (.if_icmp .eq 231, 3) := by decide +kernel
theorem dW_law_1202 : decode mW_law.2.1 1202 = .ok (.iconst 0, 1) := by decide +kernel
theorem dW_law_1203 : decode mW_law.2.1 1203 = .ok (.ireturn, 1) := by decide +kernel
theorem dW_law_1204 : decode mW_law.2.1 1204 = .ok (.aload_n 1, 1) := by decide +kernel
theorem dW_law_1205 : decode mW_law.2.1 1205 = .ok (.aload_n 0, 1) := by decide +kernel
theorem dW_law_1206 : decode mW_law.2.1 1206 = .ok (.iload_n 3, 1) := by decide +kernel
theorem dW_law_1207 : decode mW_law.2.1 1207 = .ok (.iconst 1, 1) := by decide +kernel
theorem dW_law_1208 : decode mW_law.2.1 1208 = .ok (.iadd, 1) := by decide +kernel
theorem dW_law_1209 : decode mW_law.2.1 1209 = .ok (.iaload, 1) := by decide +kernel
theorem dW_law_1210 : decode mW_law.2.1 1210 = .ok (.aload_n 0, 1) := by decide +kernel
theorem dW_law_1211 : decode mW_law.2.1 1211 = .ok (.iload_n 3, 1) := by decide +kernel
theorem dW_law_1212 : decode mW_law.2.1 1212 = .ok (.iconst 2, 1) := by decide +kernel
theorem dW_law_1213 : decode mW_law.2.1 1213 = .ok (.iadd, 1) := by decide +kernel
theorem dW_law_1214 : decode mW_law.2.1 1214 = .ok (.iaload, 1) := by decide +kernel
theorem dW_law_1215 : decode mW_law.2.1 1215 = .ok (.aload_n 0, 1) := by decide +kernel
theorem dW_law_1216 : decode mW_law.2.1 1216 = .ok (.iload_n 3, 1) := by decide +kernel
theorem dW_law_1217 : decode mW_law.2.1 1217 = .ok (.iconst 3, 1) := by decide +kernel
theorem dW_law_1218 : decode mW_law.2.1 1218 = .ok (.iadd, 1) := by decide +kernel
theorem dW_law_1219 : decode mW_law.2.1 1219 = .ok (.iaload, 1) := by decide +kernel
theorem dW_law_1220 : decode mW_law.2.1 1220 = .ok (.i2l, 1) := by decide +kernel
theorem dW_law_1221 : decode mW_law.2.1 1221 = .ok (.bipush 32, 2) := by decide +kernel
theorem dW_law_1223 : decode mW_law.2.1 1223 = .ok (.lshl, 1) := by decide +kernel
theorem dW_law_1224 : decode mW_law.2.1 1224 = .ok (.aload_n 0, 1) := by decide +kernel
theorem dW_law_1225 : decode mW_law.2.1 1225 = .ok (.iload_n 3, 1) := by decide +kernel
theorem dW_law_1226 : decode mW_law.2.1 1226 = .ok (.iconst 4, 1) := by decide +kernel
theorem dW_law_1227 : decode mW_law.2.1 1227 = .ok (.iadd, 1) := by decide +kernel
theorem dW_law_1228 : decode mW_law.2.1 1228 = .ok (.iaload, 1) := by decide +kernel
theorem dW_law_1229 : decode mW_law.2.1 1229 = .ok (.i2l, 1) := by decide +kernel
theorem dW_law_1230 : decode mW_law.2.1 1230 = .ok (.ldc2_w 164, 3) := by decide +kernel
theorem dW_law_1233 : decode mW_law.2.1 1233 = .ok (.land, 1) := by decide +kernel
theorem dW_law_1234 : decode mW_law.2.1 1234 = .ok (.lor, 1) := by decide +kernel
theorem dW_law_1235 : decode mW_law.2.1 1235 = .ok (.invokevirtual 166, 3) := by decide +kernel
theorem dW_law_1238 : decode mW_law.2.1 1238 = .ok (.aload_n 2, 1) := by decide +kernel
theorem dW_law_1239 : decode mW_law.2.1 1239 = .ok (.aload_n 0, 1) := by decide +kernel
theorem dW_law_1240 : decode mW_law.2.1 1240 = .ok (.iload_n 3, 1) := by decide +kernel
theorem dW_law_1241 : decode mW_law.2.1 1241 = .ok (.iconst 1, 1) := by decide +kernel
theorem dW_law_1242 : decode mW_law.2.1 1242 = .ok (.iadd, 1) := by decide +kernel
theorem dW_law_1243 : decode mW_law.2.1 1243 = .ok (.iaload, 1) := by decide +kernel
theorem dW_law_1244 : decode mW_law.2.1 1244 = .ok (.aload_n 0, 1) := by decide +kernel
theorem dW_law_1245 : decode mW_law.2.1 1245 = .ok (.iload_n 3, 1) := by decide +kernel
theorem dW_law_1246 : decode mW_law.2.1 1246 = .ok (.iconst 2, 1) := by decide +kernel
theorem dW_law_1247 : decode mW_law.2.1 1247 = .ok (.iadd, 1) := by decide +kernel
theorem dW_law_1248 : decode mW_law.2.1 1248 = .ok (.iaload, 1) := by decide +kernel
theorem dW_law_1249 : decode mW_law.2.1 1249 = .ok (.aload_n 0, 1) := by decide +kernel
theorem dW_law_1250 : decode mW_law.2.1 1250 = .ok (.iload_n 3, 1) := by decide +kernel
theorem dW_law_1251 : decode mW_law.2.1 1251 = .ok (.iconst 3, 1) := by decide +kernel
theorem dW_law_1252 : decode mW_law.2.1 1252 = .ok (.iadd, 1) := by decide +kernel
theorem dW_law_1253 : decode mW_law.2.1 1253 = .ok (.iaload, 1) := by decide +kernel
theorem dW_law_1254 : decode mW_law.2.1 1254 = .ok (.i2l, 1) := by decide +kernel
theorem dW_law_1255 : decode mW_law.2.1 1255 = .ok (.bipush 32, 2) := by decide +kernel
theorem dW_law_1257 : decode mW_law.2.1 1257 = .ok (.lshl, 1) := by decide +kernel
theorem dW_law_1258 : decode mW_law.2.1 1258 = .ok (.aload_n 0, 1) := by decide +kernel
theorem dW_law_1259 : decode mW_law.2.1 1259 = .ok (.iload_n 3, 1) := by decide +kernel
theorem dW_law_1260 : decode mW_law.2.1 1260 = .ok (.iconst 4, 1) := by decide +kernel
theorem dW_law_1261 : decode mW_law.2.1 1261 = .ok (.iadd, 1) := by decide +kernel
theorem dW_law_1262 : decode mW_law.2.1 1262 = .ok (.iaload, 1) := by decide +kernel
theorem dW_law_1263 : decode mW_law.2.1 1263 = .ok (.i2l, 1) := by decide +kernel
theorem dW_law_1264 : decode mW_law.2.1 1264 = .ok (.ldc2_w 164, 3) := by decide +kernel
theorem dW_law_1267 : decode mW_law.2.1 1267 = .ok (.land, 1) := by decide +kernel
theorem dW_law_1268 : decode mW_law.2.1 1268 = .ok (.lor, 1) := by decide +kernel
theorem dW_law_1269 : decode mW_law.2.1 1269 = .ok (.invokevirtual 170, 3) := by decide +kernel
theorem dW_law_1272 : decode mW_law.2.1 1272 = .ok (.if_icmp .eq 158, 3) := by decide +kernel
theorem dW_law_1275 : decode mW_law.2.1 1275 = .ok (.iconst 0, 1) := by decide +kernel
theorem dW_law_1276 : decode mW_law.2.1 1276 = .ok (.ireturn, 1) := by decide +kernel
theorem dW_law_1277 : decode mW_law.2.1 1277 = .ok (.aload_n 1, 1) := by decide +kernel
theorem dW_law_1278 : decode mW_law.2.1 1278 = .ok (.aload_n 0, 1) := by decide +kernel
theorem dW_law_1279 : decode mW_law.2.1 1279 = .ok (.iload_n 3, 1) := by decide +kernel
theorem dW_law_1280 : decode mW_law.2.1 1280 = .ok (.iconst 1, 1) := by decide +kernel
theorem dW_law_1281 : decode mW_law.2.1 1281 = .ok (.iadd, 1) := by decide +kernel
theorem dW_law_1282 : decode mW_law.2.1 1282 = .ok (.iaload, 1) := by decide +kernel
theorem dW_law_1283 : decode mW_law.2.1 1283 = .ok (.aload_n 0, 1) := by decide +kernel
theorem dW_law_1284 : decode mW_law.2.1 1284 = .ok (.iload_n 3, 1) := by decide +kernel
theorem dW_law_1285 : decode mW_law.2.1 1285 = .ok (.iconst 2, 1) := by decide +kernel
theorem dW_law_1286 : decode mW_law.2.1 1286 = .ok (.iadd, 1) := by decide +kernel
theorem dW_law_1287 : decode mW_law.2.1 1287 = .ok (.iaload, 1) := by decide +kernel
theorem dW_law_1288 : decode mW_law.2.1 1288 = .ok (.invokevirtual 171, 3) := by decide +kernel
theorem dW_law_1291 : decode mW_law.2.1 1291 = .ok (.aload_n 2, 1) := by decide +kernel
theorem dW_law_1292 : decode mW_law.2.1 1292 = .ok (.aload_n 0, 1) := by decide +kernel
theorem dW_law_1293 : decode mW_law.2.1 1293 = .ok (.iload_n 3, 1) := by decide +kernel
theorem dW_law_1294 : decode mW_law.2.1 1294 = .ok (.iconst 1, 1) := by decide +kernel
theorem dW_law_1295 : decode mW_law.2.1 1295 = .ok (.iadd, 1) := by decide +kernel
theorem dW_law_1296 : decode mW_law.2.1 1296 = .ok (.iaload, 1) := by decide +kernel
theorem dW_law_1297 : decode mW_law.2.1 1297 = .ok (.aload_n 0, 1) := by decide +kernel
theorem dW_law_1298 : decode mW_law.2.1 1298 = .ok (.iload_n 3, 1) := by decide +kernel
theorem dW_law_1299 : decode mW_law.2.1 1299 = .ok (.iconst 2, 1) := by decide +kernel
theorem dW_law_1300 : decode mW_law.2.1 1300 = .ok (.iadd, 1) := by decide +kernel
theorem dW_law_1301 : decode mW_law.2.1 1301 = .ok (.iaload, 1) := by decide +kernel
theorem dW_law_1302 : decode mW_law.2.1 1302 = .ok (.invokevirtual 174, 3) := by decide +kernel
theorem dW_law_1305 : decode mW_law.2.1 1305 = .ok (.lcmp, 1) := by decide +kernel
theorem dW_law_1306 : decode mW_law.2.1 1306 = .ok (.ifCond .eq 124, 3) := by decide +kernel
theorem dW_law_1309 : decode mW_law.2.1 1309 = .ok (.iconst 0, 1) := by decide +kernel
theorem dW_law_1310 : decode mW_law.2.1 1310 = .ok (.ireturn, 1) := by decide +kernel
theorem dW_law_1311 : decode mW_law.2.1 1311 = .ok (.aload_n 1, 1) := by decide +kernel
theorem dW_law_1312 : decode mW_law.2.1 1312 = .ok (.aload_n 0, 1) := by decide +kernel
theorem dW_law_1313 : decode mW_law.2.1 1313 = .ok (.iload_n 3, 1) := by decide +kernel
theorem dW_law_1314 : decode mW_law.2.1 1314 = .ok (.iconst 1, 1) := by decide +kernel
theorem dW_law_1315 : decode mW_law.2.1 1315 = .ok (.iadd, 1) := by decide +kernel
theorem dW_law_1316 : decode mW_law.2.1 1316 = .ok (.iaload, 1) := by decide +kernel
theorem dW_law_1317 : decode mW_law.2.1 1317 = .ok (.aload_n 0, 1) := by decide +kernel
theorem dW_law_1318 : decode mW_law.2.1 1318 = .ok (.iload_n 3, 1) := by decide +kernel
theorem dW_law_1319 : decode mW_law.2.1 1319 = .ok (.iconst 2, 1) := by decide +kernel
theorem dW_law_1320 : decode mW_law.2.1 1320 = .ok (.iadd, 1) := by decide +kernel
theorem dW_law_1321 : decode mW_law.2.1 1321 = .ok (.iaload, 1) := by decide +kernel
theorem dW_law_1322 : decode mW_law.2.1 1322 = .ok (.aload_n 0, 1) := by decide +kernel
theorem dW_law_1323 : decode mW_law.2.1 1323 = .ok (.iload_n 3, 1) := by decide +kernel
theorem dW_law_1324 : decode mW_law.2.1 1324 = .ok (.iconst 3, 1) := by decide +kernel
theorem dW_law_1325 : decode mW_law.2.1 1325 = .ok (.iadd, 1) := by decide +kernel
theorem dW_law_1326 : decode mW_law.2.1 1326 = .ok (.iaload, 1) := by decide +kernel
theorem dW_law_1327 : decode mW_law.2.1 1327 = .ok (.aload_n 0, 1) := by decide +kernel
theorem dW_law_1328 : decode mW_law.2.1 1328 = .ok (.iload_n 3, 1) := by decide +kernel
theorem dW_law_1329 : decode mW_law.2.1 1329 = .ok (.iconst 4, 1) := by decide +kernel
theorem dW_law_1330 : decode mW_law.2.1 1330 = .ok (.iadd, 1) := by decide +kernel
theorem dW_law_1331 : decode mW_law.2.1 1331 = .ok (.iaload, 1) := by decide +kernel
theorem dW_law_1332 : decode mW_law.2.1 1332 = .ok (.aload_n 0, 1) := by decide +kernel
theorem dW_law_1333 : decode mW_law.2.1 1333 = .ok (.iload_n 3, 1) := by decide +kernel
theorem dW_law_1334 : decode mW_law.2.1 1334 = .ok (.iconst 5, 1) := by decide +kernel
theorem dW_law_1335 : decode mW_law.2.1 1335 = .ok (.iadd, 1) := by decide +kernel
theorem dW_law_1336 : decode mW_law.2.1 1336 = .ok (.iaload, 1) := by decide +kernel
theorem dW_law_1337 : decode mW_law.2.1 1337 = .ok (.invokevirtual 175, 3) := by decide +kernel
theorem dW_law_1340 : decode mW_law.2.1 1340 = .ok (.aload_n 2, 1) := by decide +kernel
theorem dW_law_1341 : decode mW_law.2.1 1341 = .ok (.aload_n 0, 1) := by decide +kernel
theorem dW_law_1342 : decode mW_law.2.1 1342 = .ok (.iload_n 3, 1) := by decide +kernel
theorem dW_law_1343 : decode mW_law.2.1 1343 = .ok (.iconst 1, 1) := by decide +kernel
theorem dW_law_1344 : decode mW_law.2.1 1344 = .ok (.iadd, 1) := by decide +kernel
theorem dW_law_1345 : decode mW_law.2.1 1345 = .ok (.iaload, 1) := by decide +kernel
theorem dW_law_1346 : decode mW_law.2.1 1346 = .ok (.aload_n 0, 1) := by decide +kernel
theorem dW_law_1347 : decode mW_law.2.1 1347 = .ok (.iload_n 3, 1) := by decide +kernel
theorem dW_law_1348 : decode mW_law.2.1 1348 = .ok (.iconst 2, 1) := by decide +kernel
theorem dW_law_1349 : decode mW_law.2.1 1349 = .ok (.iadd, 1) := by decide +kernel
theorem dW_law_1350 : decode mW_law.2.1 1350 = .ok (.iaload, 1) := by decide +kernel
theorem dW_law_1351 : decode mW_law.2.1 1351 = .ok (.aload_n 0, 1) := by decide +kernel
theorem dW_law_1352 : decode mW_law.2.1 1352 = .ok (.iload_n 3, 1) := by decide +kernel
theorem dW_law_1353 : decode mW_law.2.1 1353 = .ok (.iconst 3, 1) := by decide +kernel
theorem dW_law_1354 : decode mW_law.2.1 1354 = .ok (.iadd, 1) := by decide +kernel
theorem dW_law_1355 : decode mW_law.2.1 1355 = .ok (.iaload, 1) := by decide +kernel
theorem dW_law_1356 : decode mW_law.2.1 1356 = .ok (.aload_n 0, 1) := by decide +kernel
theorem dW_law_1357 : decode mW_law.2.1 1357 = .ok (.iload_n 3, 1) := by decide +kernel
theorem dW_law_1358 : decode mW_law.2.1 1358 = .ok (.iconst 4, 1) := by decide +kernel
theorem dW_law_1359 : decode mW_law.2.1 1359 = .ok (.iadd, 1) := by decide +kernel
theorem dW_law_1360 : decode mW_law.2.1 1360 = .ok (.iaload, 1) := by decide +kernel
theorem dW_law_1361 : decode mW_law.2.1 1361 = .ok (.aload_n 0, 1) := by decide +kernel
theorem dW_law_1362 : decode mW_law.2.1 1362 = .ok (.iload_n 3, 1) := by decide +kernel
theorem dW_law_1363 : decode mW_law.2.1 1363 = .ok (.iconst 5, 1) := by decide +kernel
theorem dW_law_1364 : decode mW_law.2.1 1364 = .ok (.iadd, 1) := by decide +kernel
theorem dW_law_1365 : decode mW_law.2.1 1365 = .ok (.iaload, 1) := by decide +kernel
theorem dW_law_1366 : decode mW_law.2.1 1366 = .ok (.invokevirtual 179, 3) := by decide +kernel
theorem dW_law_1369 : decode mW_law.2.1 1369 = .ok (.if_icmp .eq 61, 3) := by decide +kernel
theorem dW_law_1372 : decode mW_law.2.1 1372 = .ok (.iconst 0, 1) := by decide +kernel
theorem dW_law_1373 : decode mW_law.2.1 1373 = .ok (.ireturn, 1) := by decide +kernel
theorem dW_law_1374 : decode mW_law.2.1 1374 = .ok (.aload_n 1, 1) := by decide +kernel
theorem dW_law_1375 : decode mW_law.2.1 1375 = .ok (.aload_n 0, 1) := by decide +kernel
theorem dW_law_1376 : decode mW_law.2.1 1376 = .ok (.iload_n 3, 1) := by decide +kernel
theorem dW_law_1377 : decode mW_law.2.1 1377 = .ok (.iconst 1, 1) := by decide +kernel
theorem dW_law_1378 : decode mW_law.2.1 1378 = .ok (.iadd, 1) := by decide +kernel
theorem dW_law_1379 : decode mW_law.2.1 1379 = .ok (.iaload, 1) := by decide +kernel
theorem dW_law_1380 : decode mW_law.2.1 1380 = .ok (.aload_n 0, 1) := by decide +kernel
theorem dW_law_1381 : decode mW_law.2.1 1381 = .ok (.iload_n 3, 1) := by decide +kernel
theorem dW_law_1382 : decode mW_law.2.1 1382 = .ok (.iconst 2, 1) := by decide +kernel
theorem dW_law_1383 : decode mW_law.2.1 1383 = .ok (.iadd, 1) := by decide +kernel
theorem dW_law_1384 : decode mW_law.2.1 1384 = .ok (.iaload, 1) := by decide +kernel
theorem dW_law_1385 : decode mW_law.2.1 1385 = .ok (.invokevirtual 180, 3) := by decide +kernel
theorem dW_law_1388 : decode mW_law.2.1 1388 = .ok (.aload_n 2, 1) := by decide +kernel
theorem dW_law_1389 : decode mW_law.2.1 1389 = .ok (.aload_n 0, 1) := by decide +kernel
theorem dW_law_1390 : decode mW_law.2.1 1390 = .ok (.iload_n 3, 1) := by decide +kernel
theorem dW_law_1391 : decode mW_law.2.1 1391 = .ok (.iconst 1, 1) := by decide +kernel
theorem dW_law_1392 : decode mW_law.2.1 1392 = .ok (.iadd, 1) := by decide +kernel
theorem dW_law_1393 : decode mW_law.2.1 1393 = .ok (.iaload, 1) := by decide +kernel
theorem dW_law_1394 : decode mW_law.2.1 1394 = .ok (.aload_n 0, 1) := by decide +kernel
theorem dW_law_1395 : decode mW_law.2.1 1395 = .ok (.iload_n 3, 1) := by decide +kernel
theorem dW_law_1396 : decode mW_law.2.1 1396 = .ok (.iconst 2, 1) := by decide +kernel
theorem dW_law_1397 : decode mW_law.2.1 1397 = .ok (.iadd, 1) := by decide +kernel
theorem dW_law_1398 : decode mW_law.2.1 1398 = .ok (.iaload, 1) := by decide +kernel
theorem dW_law_1399 : decode mW_law.2.1 1399 = .ok (.invokevirtual 183, 3) := by decide +kernel
theorem dW_law_1402 : decode mW_law.2.1 1402 = .ok (.if_icmp .eq 28, 3) := by decide +kernel
theorem dW_law_1405 : decode mW_law.2.1 1405 = .ok (.iconst 0, 1) := by decide +kernel
theorem dW_law_1406 : decode mW_law.2.1 1406 = .ok (.ireturn, 1) := by decide +kernel
theorem dW_law_1407 : decode mW_law.2.1 1407 = .ok (.aload_n 1, 1) := by decide +kernel
theorem dW_law_1408 : decode mW_law.2.1 1408 = .ok (.aload_n 0, 1) := by decide +kernel
theorem dW_law_1409 : decode mW_law.2.1 1409 = .ok (.iload_n 3, 1) := by decide +kernel
theorem dW_law_1410 : decode mW_law.2.1 1410 = .ok (.iconst 1, 1) := by decide +kernel
theorem dW_law_1411 : decode mW_law.2.1 1411 = .ok (.iadd, 1) := by decide +kernel
theorem dW_law_1412 : decode mW_law.2.1 1412 = .ok (.iaload, 1) := by decide +kernel
theorem dW_law_1413 : decode mW_law.2.1 1413 = .ok (.invokevirtual 184, 3) := by decide +kernel
theorem dW_law_1416 : decode mW_law.2.1 1416 = .ok (.aload_n 2, 1) := by decide +kernel
theorem dW_law_1417 : decode mW_law.2.1 1417 = .ok (.aload_n 0, 1) := by decide +kernel
theorem dW_law_1418 : decode mW_law.2.1 1418 = .ok (.iload_n 3, 1) := by decide +kernel
theorem dW_law_1419 : decode mW_law.2.1 1419 = .ok (.iconst 1, 1) := by decide +kernel
theorem dW_law_1420 : decode mW_law.2.1 1420 = .ok (.iadd, 1) := by decide +kernel
theorem dW_law_1421 : decode mW_law.2.1 1421 = .ok (.iaload, 1) := by decide +kernel
theorem dW_law_1422 : decode mW_law.2.1 1422 = .ok (.invokevirtual 187, 3) := by decide +kernel
theorem dW_law_1425 : decode mW_law.2.1 1425 = .ok (.if_icmp .eq 5, 3) := by decide +kernel
theorem dW_law_1428 : decode mW_law.2.1 1428 = .ok (.iconst 0, 1) := by decide +kernel
theorem dW_law_1429 : decode mW_law.2.1 1429 = .ok (.ireturn, 1) := by decide +kernel
theorem dW_law_1430 : decode mW_law.2.1 1430 = .ok (.iinc 3 6, 3) := by decide +kernel
theorem dW_law_1433 : decode mW_law.2.1 1433 = .ok (.goto (-1415), 3) := by decide +kernel
theorem dW_law_1436 : decode mW_law.2.1 1436 = .ok (.iconst 1, 1) := by decide +kernel
theorem dW_law_1437 : decode mW_law.2.1 1437 = .ok (.ireturn, 1) := by decide +kernel
set_option maxRecDepth 4000 in
theorem wW_law_18 {X : Cx} (x3 : Int) (sw : Bool) (m : Mem) (Q : Int → Bool → Mem → Prop) (h : ((w32 ((xN X : Int) - 6) < w32 x3 → Q 1 sw m) ∧ (¬ (w32 ((xN X : Int) - 6) < w32 x3) → ((0 ≤ w32 x3 ∧ w32 x3 < (xN X : Int)) ∧ ((w32 (zand (xS X (w32 x3).toNat) 63) = 0 → R3 X 84 mW_law 212 [(0, vr 1007), (1, vr 1), (2, vr 84), (3, vi x3)] [] sw m Q) ∧ ((w32 (zand (xS X (w32 x3).toNat) 63) = 1 → R3 X 84 mW_law 245 [(0, vr 1007), (1, vr 1), (2, vr 84), (3, vi x3)] [] sw m Q) ∧ ((w32 (zand (xS X (w32 x3).toNat) 63) = 2 → R3 X 84 mW_law 288 [(0, vr 1007), (1, vr 1), (2, vr 84), (3, vi x3)] [] sw m Q) ∧ ((w32 (zand (xS X (w32 x3).toNat) 63) = 3 → R3 X 84 mW_law 331 [(0, vr 1007), (1, vr 1), (2, vr 84), (3, vi x3)] [] sw m Q) ∧ ((w32 (zand (xS X (w32 x3).toNat) 63) = 4 → R3 X 84 mW_law 364 [(0, vr 1007), (1, vr 1), (2, vr 84), (3, vi x3)] [] sw m Q) ∧ ((w32 (zand (xS X (w32 x3).toNat) 63) = 5 → R3 X 84 mW_law 387 [(0, vr 1007), (1, vr 1), (2, vr 84), (3, vi x3)] [] sw m Q) ∧ ((w32 (zand (xS X (w32 x3).toNat) 63) = 6 → R3 X 84 mW_law 400 [(0, vr 1007), (1, vr 1), (2, vr 84), (3, vi x3)] [] sw m Q) ∧ ((w32 (zand (xS X (w32 x3).toNat) 63) = 7 → R3 X 84 mW_law 423 [(0, vr 1007), (1, vr 1), (2, vr 84), (3, vi x3)] [] sw m Q) ∧ ((w32 (zand (xS X (w32 x3).toNat) 63) = 8 → R3 X 84 mW_law 456 [(0, vr 1007), (1, vr 1), (2, vr 84), (3, vi x3)] [] sw m Q) ∧ ((w32 (zand (xS X (w32 x3).toNat) 63) = 9 → R3 X 84 mW_law 479 [(0, vr 1007), (1, vr 1), (2, vr 84), (3, vi x3)] [] sw m Q) ∧ ((w32 (zand (xS X (w32 x3).toNat) 63) = 10 → R3 X 84 mW_law 513 [(0, vr 1007), (1, vr 1), (2, vr 84), (3, vi x3)] [] sw m Q) ∧ ((w32 (zand (xS X (w32 x3).toNat) 63) = 11 → R3 X 84 mW_law 536 [(0, vr 1007), (1, vr 1), (2, vr 84), (3, vi x3)] [] sw m Q) ∧ ((w32 (zand (xS X (w32 x3).toNat) 63) = 12 → R3 X 84 mW_law 560 [(0, vr 1007), (1, vr 1), (2, vr 84), (3, vi x3)] [] sw m Q) ∧ ((w32 (zand (xS X (w32 x3).toNat) 63) = 13 → R3 X 84 mW_law 583 [(0, vr 1007), (1, vr 1), (2, vr 84), (3, vi x3)] [] sw m Q) ∧ ((w32 (zand (xS X (w32 x3).toNat) 63) = 14 → R3 X 84 mW_law 606 [(0, vr 1007), (1, vr 1), (2, vr 84), (3, vi x3)] [] sw m Q) ∧ ((w32 (zand (xS X (w32 x3).toNat) 63) = 15 → R3 X 84 mW_law 639 [(0, vr 1007), (1, vr 1), (2, vr 84), (3, vi x3)] [] sw m Q) ∧ ((w32 (zand (xS X (w32 x3).toNat) 63) = 16 → R3 X 84 mW_law 663 [(0, vr 1007), (1, vr 1), (2, vr 84), (3, vi x3)] [] sw m Q) ∧ ((w32 (zand (xS X (w32 x3).toNat) 63) = 17 → R3 X 84 mW_law 707 [(0, vr 1007), (1, vr 1), (2, vr 84), (3, vi x3)] [] sw m Q) ∧ ((w32 (zand (xS X (w32 x3).toNat) 63) = 18 → R3 X 84 mW_law 730 [(0, vr 1007), (1, vr 1), (2, vr 84), (3, vi x3)] [] sw m Q) ∧ ((w32 (zand (xS X (w32 x3).toNat) 63) = 19 → R3 X 84 mW_law 753 [(0, vr 1007), (1, vr 1), (2, vr 84), (3, vi x3)] [] sw m Q) ∧ ((w32 (zand (xS X (w32 x3).toNat) 63) = 20 → R3 X 84 mW_law 786 [(0, vr 1007), (1, vr 1), (2, vr 84), (3, vi x3)] [] sw m Q) ∧ ((w32 (zand (xS X (w32 x3).toNat) 63) = 21 → R3 X 84 mW_law 809 [(0, vr 1007), (1, vr 1), (2, vr 84), (3, vi x3)] [] sw m Q) ∧ ((w32 (zand (xS X (w32 x3).toNat) 63) = 22 → R3 X 84 mW_law 842 [(0, vr 1007), (1, vr 1), (2, vr 84), (3, vi x3)] [] sw m Q) ∧ ((w32 (zand (xS X (w32 x3).toNat) 63) = 23 → R3 X 84 mW_law 875 [(0, vr 1007), (1, vr 1), (2, vr 84), (3, vi x3)] [] sw m Q) ∧ ((w32 (zand (xS X (w32 x3).toNat) 63) = 24 → R3 X 84 mW_law 918 [(0, vr 1007), (1, vr 1), (2, vr 84), (3, vi x3)] [] sw m Q) ∧ ((w32 (zand (xS X (w32 x3).toNat) 63) = 25 → R3 X 84 mW_law 941 [(0, vr 1007), (1, vr 1), (2, vr 84), (3, vi x3)] [] sw m Q) ∧ ((w32 (zand (xS X (w32 x3).toNat) 63) = 26 → R3 X 84 mW_law 964 [(0, vr 1007), (1, vr 1), (2, vr 84), (3, vi x3)] [] sw m Q) ∧ ((w32 (zand (xS X (w32 x3).toNat) 63) = 27 → R3 X 84 mW_law 987 [(0, vr 1007), (1, vr 1), (2, vr 84), (3, vi x3)] [] sw m Q) ∧ ((w32 (zand (xS X (w32 x3).toNat) 63) = 28 → R3 X 84 mW_law 1000 [(0, vr 1007), (1, vr 1), (2, vr 84), (3, vi x3)] [] sw m Q) ∧ ((w32 (zand (xS X (w32 x3).toNat) 63) = 29 → R3 X 84 mW_law 1013 [(0, vr 1007), (1, vr 1), (2, vr 84), (3, vi x3)] [] sw m Q) ∧ ((w32 (zand (xS X (w32 x3).toNat) 63) = 30 → R3 X 84 mW_law 1026 [(0, vr 1007), (1, vr 1), (2, vr 84), (3, vi x3)] [] sw m Q) ∧ ((w32 (zand (xS X (w32 x3).toNat) 63) = 31 → R3 X 84 mW_law 1039 [(0, vr 1007), (1, vr 1), (2, vr 84), (3, vi x3)] [] sw m Q) ∧ ((w32 (zand (xS X (w32 x3).toNat) 63) = 32 → R3 X 84 mW_law 1062 [(0, vr 1007), (1, vr 1), (2, vr 84), (3, vi x3)] [] sw m Q) ∧ ((w32 (zand (xS X (w32 x3).toNat) 63) = 33 → R3 X 84 mW_law 1105 [(0, vr 1007), (1, vr 1), (2, vr 84), (3, vi x3)] [] sw m Q) ∧ ((w32 (zand (xS X (w32 x3).toNat) 63) = 34 → R3 X 84 mW_law 1128 [(0, vr 1007), (1, vr 1), (2, vr 84), (3, vi x3)] [] sw m Q) ∧ ((w32 (zand (xS X (w32 x3).toNat) 63) = 35 → R3 X 84 mW_law 1161 [(0, vr 1007), (1, vr 1), (2, vr 84), (3, vi x3)] [] sw m Q) ∧ ((w32 (zand (xS X (w32 x3).toNat) 63) = 36 → R3 X 84 mW_law 1204 [(0, vr 1007), (1, vr 1), (2, vr 84), (3, vi x3)] [] sw m Q) ∧ ((w32 (zand (xS X (w32 x3).toNat) 63) = 37 → R3 X 84 mW_law 1277 [(0, vr 1007), (1, vr 1), (2, vr 84), (3, vi x3)] [] sw m Q) ∧ ((w32 (zand (xS X (w32 x3).toNat) 63) = 38 → R3 X 84 mW_law 1311 [(0, vr 1007), (1, vr 1), (2, vr 84), (3, vi x3)] [] sw m Q) ∧ ((w32 (zand (xS X (w32 x3).toNat) 63) = 39 → R3 X 84 mW_law 1374 [(0, vr 1007), (1, vr 1), (2, vr 84), (3, vi x3)] [] sw m Q) ∧ ((w32 (zand (xS X (w32 x3).toNat) 63) = 40 → R3 X 84 mW_law 1407 [(0, vr 1007), (1, vr 1), (2, vr 84), (3, vi x3)] [] sw m Q) ∧ ((w32 (zand (xS X (w32 x3).toNat) 63) < 0 ∨ 40 < w32 (zand (xS X (w32 x3).toNat) 63)) → R3 X 84 mW_law 1430 [(0, vr 1007), (1, vr 1), (2, vr 84), (3, vi x3)] [] sw m Q)))))))))))))))))))))))))))))))))))))))))))))) : R3 X 84 mW_law 18 [(0, vr 1007), (1, vr 1), (2, vr 84), (3, vi x3)] [] sw m Q := by
  refine r_iload_n 3 3 rfl dW_law_18 rfl ?_
  refine r_aload_n 0 0 rfl dW_law_19 rfl ?_
  refine r_slen dW_law_20 ?_
  refine r_bipush (by decide) dW_law_21 ?_
  refine r_isub dW_law_23 ?_
  refine r_ifc_gt (tgt := 1436) dW_law_24 (by decide) (fun hc => ?_) (fun hc => ?_)
  · replace h := h.1 hc
    refine r_iconst dW_law_1436 ?_
    exact q_bret3 rfl (Or.inr rfl) h dW_law_1437
  · replace h := h.2 hc
    refine r_aload_n 0 0 rfl dW_law_27 rfl ?_
    refine r_iload_n 3 3 rfl dW_law_28 rfl ?_
    refine r_sload h.1 dW_law_29 ?_
    replace h := h.2
    refine r_bipush (by decide) dW_law_30 ?_
    refine r_iand dW_law_32 ?_
    by_cases hs0 : w32 (zand (xS X (w32 x3).toNat) 63) = 0
    · refine r_tabIn (off := 179) (tgt := 212) 0 hs0 dW_law_33 (by decide) (by decide) (by decide) (by decide) ?_
      replace h := h.1 hs0
      refine r_sub [0, 1, 2, 3] ?_ h
      rfl
    · replace h := h.2
      by_cases hs1 : w32 (zand (xS X (w32 x3).toNat) 63) = 1
      · refine r_tabIn (off := 212) (tgt := 245) 1 hs1 dW_law_33 (by decide) (by decide) (by decide) (by decide) ?_
        replace h := h.1 hs1
        refine r_sub [0, 1, 2, 3] ?_ h
        rfl
      · replace h := h.2
        by_cases hs2 : w32 (zand (xS X (w32 x3).toNat) 63) = 2
        · refine r_tabIn (off := 255) (tgt := 288) 2 hs2 dW_law_33 (by decide) (by decide) (by decide) (by decide) ?_
          replace h := h.1 hs2
          refine r_sub [0, 1, 2, 3] ?_ h
          rfl
        · replace h := h.2
          by_cases hs3 : w32 (zand (xS X (w32 x3).toNat) 63) = 3
          · refine r_tabIn (off := 298) (tgt := 331) 3 hs3 dW_law_33 (by decide) (by decide) (by decide) (by decide) ?_
            replace h := h.1 hs3
            refine r_sub [0, 1, 2, 3] ?_ h
            rfl
          · replace h := h.2
            by_cases hs4 : w32 (zand (xS X (w32 x3).toNat) 63) = 4
            · refine r_tabIn (off := 331) (tgt := 364) 4 hs4 dW_law_33 (by decide) (by decide) (by decide) (by decide) ?_
              replace h := h.1 hs4
              refine r_sub [0, 1, 2, 3] ?_ h
              rfl
            · replace h := h.2
              by_cases hs5 : w32 (zand (xS X (w32 x3).toNat) 63) = 5
              · refine r_tabIn (off := 354) (tgt := 387) 5 hs5 dW_law_33 (by decide) (by decide) (by decide) (by decide) ?_
                replace h := h.1 hs5
                refine r_sub [0, 1, 2, 3] ?_ h
                rfl
              · replace h := h.2
                by_cases hs6 : w32 (zand (xS X (w32 x3).toNat) 63) = 6
                · refine r_tabIn (off := 367) (tgt := 400) 6 hs6 dW_law_33 (by decide) (by decide) (by decide) (by decide) ?_
                  replace h := h.1 hs6
                  refine r_sub [0, 1, 2, 3] ?_ h
                  rfl
                · replace h := h.2
                  by_cases hs7 : w32 (zand (xS X (w32 x3).toNat) 63) = 7
                  · refine r_tabIn (off := 390) (tgt := 423) 7 hs7 dW_law_33 (by decide) (by decide) (by decide) (by decide) ?_
                    replace h := h.1 hs7
                    refine r_sub [0, 1, 2, 3] ?_ h
                    rfl
                  · replace h := h.2
                    by_cases hs8 : w32 (zand (xS X (w32 x3).toNat) 63) = 8
                    · refine r_tabIn (off := 423) (tgt := 456) 8 hs8 dW_law_33 (by decide) (by decide) (by decide) (by decide) ?_
                      replace h := h.1 hs8
                      refine r_sub [0, 1, 2, 3] ?_ h
                      rfl
                    · replace h := h.2
                      by_cases hs9 : w32 (zand (xS X (w32 x3).toNat) 63) = 9
                      · refine r_tabIn (off := 446) (tgt := 479) 9 hs9 dW_law_33 (by decide) (by decide) (by decide) (by decide) ?_
                        replace h := h.1 hs9
                        refine r_sub [0, 1, 2, 3] ?_ h
                        rfl
                      · replace h := h.2
                        by_cases hs10 : w32 (zand (xS X (w32 x3).toNat) 63) = 10
                        · refine r_tabIn (off := 480) (tgt := 513) 10 hs10 dW_law_33 (by decide) (by decide) (by decide) (by decide) ?_
                          replace h := h.1 hs10
                          refine r_sub [0, 1, 2, 3] ?_ h
                          rfl
                        · replace h := h.2
                          by_cases hs11 : w32 (zand (xS X (w32 x3).toNat) 63) = 11
                          · refine r_tabIn (off := 503) (tgt := 536) 11 hs11 dW_law_33 (by decide) (by decide) (by decide) (by decide) ?_
                            replace h := h.1 hs11
                            refine r_sub [0, 1, 2, 3] ?_ h
                            rfl
                          · replace h := h.2
                            by_cases hs12 : w32 (zand (xS X (w32 x3).toNat) 63) = 12
                            · refine r_tabIn (off := 527) (tgt := 560) 12 hs12 dW_law_33 (by decide) (by decide) (by decide) (by decide) ?_
                              replace h := h.1 hs12
                              refine r_sub [0, 1, 2, 3] ?_ h
                              rfl
                            · replace h := h.2
                              by_cases hs13 : w32 (zand (xS X (w32 x3).toNat) 63) = 13
                              · refine r_tabIn (off := 550) (tgt := 583) 13 hs13 dW_law_33 (by decide) (by decide) (by decide) (by decide) ?_
                                replace h := h.1 hs13
                                refine r_sub [0, 1, 2, 3] ?_ h
                                rfl
                              · replace h := h.2
                                by_cases hs14 : w32 (zand (xS X (w32 x3).toNat) 63) = 14
                                · refine r_tabIn (off := 573) (tgt := 606) 14 hs14 dW_law_33 (by decide) (by decide) (by decide) (by decide) ?_
                                  replace h := h.1 hs14
                                  refine r_sub [0, 1, 2, 3] ?_ h
                                  rfl
                                · replace h := h.2
                                  by_cases hs15 : w32 (zand (xS X (w32 x3).toNat) 63) = 15
                                  · refine r_tabIn (off := 606) (tgt := 639) 15 hs15 dW_law_33 (by decide) (by decide) (by decide) (by decide) ?_
                                    replace h := h.1 hs15
                                    refine r_sub [0, 1, 2, 3] ?_ h
                                    rfl
                                  · replace h := h.2
                                    by_cases hs16 : w32 (zand (xS X (w32 x3).toNat) 63) = 16
                                    · refine r_tabIn (off := 630) (tgt := 663) 16 hs16 dW_law_33 (by decide) (by decide) (by decide) (by decide) ?_
                                      replace h := h.1 hs16
                                      refine r_sub [0, 1, 2, 3] ?_ h
                                      rfl
                                    · replace h := h.2
                                      by_cases hs17 : w32 (zand (xS X (w32 x3).toNat) 63) = 17
                                      · refine r_tabIn (off := 674) (tgt := 707) 17 hs17 dW_law_33 (by decide) (by decide) (by decide) (by decide) ?_
                                        replace h := h.1 hs17
                                        refine r_sub [0, 1, 2, 3] ?_ h
                                        rfl
                                      · replace h := h.2
                                        by_cases hs18 : w32 (zand (xS X (w32 x3).toNat) 63) = 18
                                        · refine r_tabIn (off := 697) (tgt := 730) 18 hs18 dW_law_33 (by decide) (by decide) (by decide) (by decide) ?_
                                          replace h := h.1 hs18
                                          refine r_sub [0, 1, 2, 3] ?_ h
                                          rfl
                                        · replace h := h.2
                                          by_cases hs19 : w32 (zand (xS X (w32 x3).toNat) 63) = 19
                                          · refine r_tabIn (off := 720) (tgt := 753) 19 hs19 dW_law_33 (by decide) (by decide) (by decide) (by decide) ?_
                                            replace h := h.1 hs19
                                            refine r_sub [0, 1, 2, 3] ?_ h
                                            rfl
                                          · replace h := h.2
                                            by_cases hs20 : w32 (zand (xS X (w32 x3).toNat) 63) = 20
                                            · refine r_tabIn (off := 753) (tgt := 786) 20 hs20 dW_law_33 (by decide) (by decide) (by decide) (by decide) ?_
                                              replace h := h.1 hs20
                                              refine r_sub [0, 1, 2, 3] ?_ h
                                              rfl
                                            · replace h := h.2
                                              by_cases hs21 : w32 (zand (xS X (w32 x3).toNat) 63) = 21
                                              · refine r_tabIn (off := 776) (tgt := 809) 21 hs21 dW_law_33 (by decide) (by decide) (by decide) (by decide) ?_
                                                replace h := h.1 hs21
                                                refine r_sub [0, 1, 2, 3] ?_ h
                                                rfl
                                              · replace h := h.2
                                                by_cases hs22 : w32 (zand (xS X (w32 x3).toNat) 63) = 22
                                                · refine r_tabIn (off := 809) (tgt := 842) 22 hs22 dW_law_33 (by decide) (by decide) (by decide) (by decide) ?_
                                                  replace h := h.1 hs22
                                                  refine r_sub [0, 1, 2, 3] ?_ h
                                                  rfl
                                                · replace h := h.2
                                                  by_cases hs23 : w32 (zand (xS X (w32 x3).toNat) 63) = 23
                                                  · refine r_tabIn (off := 842) (tgt := 875) 23 hs23 dW_law_33 (by decide) (by decide) (by decide) (by decide) ?_
                                                    replace h := h.1 hs23
                                                    refine r_sub [0, 1, 2, 3] ?_ h
                                                    rfl
                                                  · replace h := h.2
                                                    by_cases hs24 : w32 (zand (xS X (w32 x3).toNat) 63) = 24
                                                    · refine r_tabIn (off := 885) (tgt := 918) 24 hs24 dW_law_33 (by decide) (by decide) (by decide) (by decide) ?_
                                                      replace h := h.1 hs24
                                                      refine r_sub [0, 1, 2, 3] ?_ h
                                                      rfl
                                                    · replace h := h.2
                                                      by_cases hs25 : w32 (zand (xS X (w32 x3).toNat) 63) = 25
                                                      · refine r_tabIn (off := 908) (tgt := 941) 25 hs25 dW_law_33 (by decide) (by decide) (by decide) (by decide) ?_
                                                        replace h := h.1 hs25
                                                        refine r_sub [0, 1, 2, 3] ?_ h
                                                        rfl
                                                      · replace h := h.2
                                                        by_cases hs26 : w32 (zand (xS X (w32 x3).toNat) 63) = 26
                                                        · refine r_tabIn (off := 931) (tgt := 964) 26 hs26 dW_law_33 (by decide) (by decide) (by decide) (by decide) ?_
                                                          replace h := h.1 hs26
                                                          refine r_sub [0, 1, 2, 3] ?_ h
                                                          rfl
                                                        · replace h := h.2
                                                          by_cases hs27 : w32 (zand (xS X (w32 x3).toNat) 63) = 27
                                                          · refine r_tabIn (off := 954) (tgt := 987) 27 hs27 dW_law_33 (by decide) (by decide) (by decide) (by decide) ?_
                                                            replace h := h.1 hs27
                                                            refine r_sub [0, 1, 2, 3] ?_ h
                                                            rfl
                                                          · replace h := h.2
                                                            by_cases hs28 : w32 (zand (xS X (w32 x3).toNat) 63) = 28
                                                            · refine r_tabIn (off := 967) (tgt := 1000) 28 hs28 dW_law_33 (by decide) (by decide) (by decide) (by decide) ?_
                                                              replace h := h.1 hs28
                                                              refine r_sub [0, 1, 2, 3] ?_ h
                                                              rfl
                                                            · replace h := h.2
                                                              by_cases hs29 : w32 (zand (xS X (w32 x3).toNat) 63) = 29
                                                              · refine r_tabIn (off := 980) (tgt := 1013) 29 hs29 dW_law_33 (by decide) (by decide) (by decide) (by decide) ?_
                                                                replace h := h.1 hs29
                                                                refine r_sub [0, 1, 2, 3] ?_ h
                                                                rfl
                                                              · replace h := h.2
                                                                by_cases hs30 : w32 (zand (xS X (w32 x3).toNat) 63) = 30
                                                                · refine r_tabIn (off := 993) (tgt := 1026) 30 hs30 dW_law_33 (by decide) (by decide) (by decide) (by decide) ?_
                                                                  replace h := h.1 hs30
                                                                  refine r_sub [0, 1, 2, 3] ?_ h
                                                                  rfl
                                                                · replace h := h.2
                                                                  by_cases hs31 : w32 (zand (xS X (w32 x3).toNat) 63) = 31
                                                                  · refine r_tabIn (off := 1006) (tgt := 1039) 31 hs31 dW_law_33 (by decide) (by decide) (by decide) (by decide) ?_
                                                                    replace h := h.1 hs31
                                                                    refine r_sub [0, 1, 2, 3] ?_ h
                                                                    rfl
                                                                  · replace h := h.2
                                                                    by_cases hs32 : w32 (zand (xS X (w32 x3).toNat) 63) = 32
                                                                    · refine r_tabIn (off := 1029) (tgt := 1062) 32 hs32 dW_law_33 (by decide) (by decide) (by decide) (by decide) ?_
                                                                      replace h := h.1 hs32
                                                                      refine r_sub [0, 1, 2, 3] ?_ h
                                                                      rfl
                                                                    · replace h := h.2
                                                                      by_cases hs33 : w32 (zand (xS X (w32 x3).toNat) 63) = 33
                                                                      · refine r_tabIn (off := 1072) (tgt := 1105) 33 hs33 dW_law_33 (by decide) (by decide) (by decide) (by decide) ?_
                                                                        replace h := h.1 hs33
                                                                        refine r_sub [0, 1, 2, 3] ?_ h
                                                                        rfl
                                                                      · replace h := h.2
                                                                        by_cases hs34 : w32 (zand (xS X (w32 x3).toNat) 63) = 34
                                                                        · refine r_tabIn (off := 1095) (tgt := 1128) 34 hs34 dW_law_33 (by decide) (by decide) (by decide) (by decide) ?_
                                                                          replace h := h.1 hs34
                                                                          refine r_sub [0, 1, 2, 3] ?_ h
                                                                          rfl
                                                                        · replace h := h.2
                                                                          by_cases hs35 : w32 (zand (xS X (w32 x3).toNat) 63) = 35
                                                                          · refine r_tabIn (off := 1128) (tgt := 1161) 35 hs35 dW_law_33 (by decide) (by decide) (by decide) (by decide) ?_
                                                                            replace h := h.1 hs35
                                                                            refine r_sub [0, 1, 2, 3] ?_ h
                                                                            rfl
                                                                          · replace h := h.2
                                                                            by_cases hs36 : w32 (zand (xS X (w32 x3).toNat) 63) = 36
                                                                            · refine r_tabIn (off := 1171) (tgt := 1204) 36 hs36 dW_law_33 (by decide) (by decide) (by decide) (by decide) ?_
                                                                              replace h := h.1 hs36
                                                                              refine r_sub [0, 1, 2, 3] ?_ h
                                                                              rfl
                                                                            · replace h := h.2
                                                                              by_cases hs37 : w32 (zand (xS X (w32 x3).toNat) 63) = 37
                                                                              · refine r_tabIn (off := 1244) (tgt := 1277) 37 hs37 dW_law_33 (by decide) (by decide) (by decide) (by decide) ?_
                                                                                replace h := h.1 hs37
                                                                                refine r_sub [0, 1, 2, 3] ?_ h
                                                                                rfl
                                                                              · replace h := h.2
                                                                                by_cases hs38 : w32 (zand (xS X (w32 x3).toNat) 63) = 38
                                                                                · refine r_tabIn (off := 1278) (tgt := 1311) 38 hs38 dW_law_33 (by decide) (by decide) (by decide) (by decide) ?_
                                                                                  replace h := h.1 hs38
                                                                                  refine r_sub [0, 1, 2, 3] ?_ h
                                                                                  rfl
                                                                                · replace h := h.2
                                                                                  by_cases hs39 : w32 (zand (xS X (w32 x3).toNat) 63) = 39
                                                                                  · refine r_tabIn (off := 1341) (tgt := 1374) 39 hs39 dW_law_33 (by decide) (by decide) (by decide) (by decide) ?_
                                                                                    replace h := h.1 hs39
                                                                                    refine r_sub [0, 1, 2, 3] ?_ h
                                                                                    rfl
                                                                                  · replace h := h.2
                                                                                    by_cases hs40 : w32 (zand (xS X (w32 x3).toNat) 63) = 40
                                                                                    · refine r_tabIn (off := 1374) (tgt := 1407) 40 hs40 dW_law_33 (by decide) (by decide) (by decide) (by decide) ?_
                                                                                      replace h := h.1 hs40
                                                                                      refine r_sub [0, 1, 2, 3] ?_ h
                                                                                      rfl
                                                                                    · replace h := h.2
                                                                                      have hq : w32 (zand (xS X (w32 x3).toNat) 63) < 0 ∨ 40 < w32 (zand (xS X (w32 x3).toNat) 63) := by omega
                                                                                      refine r_tabOut (tgt := 1430) dW_law_33 hq (by decide) ?_
                                                                                      replace h := h hq
                                                                                      refine r_sub [0, 1, 2, 3] ?_ h
                                                                                      rfl
set_option maxRecDepth 4000 in
theorem wW_law_212 {X : Cx} (x3 : Int) (sw : Bool) (m : Mem) (Q : Int → Bool → Mem → Prop) (h : ((0 ≤ w32 (x3 + 1) ∧ w32 (x3 + 1) < (xN X : Int)) ∧ ((0 ≤ w32 (x3 + 2) ∧ w32 (x3 + 2) < (xN X : Int)) ∧ M2 X 4 mZ_part [vr 1, vi (xS X (w32 (x3 + 1)).toNat), vi (xS X (w32 (x3 + 2)).toNat)] sw m (fun z1 sw1 m1 => ((0 ≤ w32 (x3 + 1) ∧ w32 (x3 + 1) < (xN X : Int)) ∧ ((0 ≤ w32 (x3 + 2) ∧ w32 (x3 + 2) < (xN X : Int)) ∧ M2 X 3 mY_part [vr 84, vi (xS X (w32 (x3 + 1)).toNat), vi (xS X (w32 (x3 + 2)).toNat)] sw1 m1 (fun z2 sw2 m2 => ((w32 z1 = w32 z2 → R3 X 84 mW_law 1430 [(0, vr 1007), (1, vr 1), (2, vr 84), (3, vi x3)] [] sw2 m2 Q) ∧ (¬ (w32 z1 = w32 z2) → Q 0 sw2 m2))))))))) : R3 X 84 mW_law 212 [(0, vr 1007), (1, vr 1), (2, vr 84), (3, vi x3)] [] sw m Q := by
  refine r_aload_n 1 1 rfl dW_law_212 rfl ?_
  refine r_aload_n 0 0 rfl dW_law_213 rfl ?_
  refine r_iload_n 3 3 rfl dW_law_214 rfl ?_
  refine r_iconst dW_law_215 ?_
  refine r_iadd dW_law_216 ?_
  refine r_sload h.1 dW_law_217 ?_
  replace h := h.2
  refine r_aload_n 0 0 rfl dW_law_218 rfl ?_
  refine r_iload_n 3 3 rfl dW_law_219 rfl ?_
  refine r_iconst dW_law_220 ?_
  refine r_iadd dW_law_221 ?_
  refine r_sload h.1 dW_law_222 ?_
  replace h := h.2
  refine r_callVi 0 [_, _] rfl c1 rfl rfl oZ_part iZ_part sZ_part yW_13 (by decide) ⟨Nat.le_refl _, Nat.le_refl _⟩ rfl (Nat.le_of_ble_eq_true rfl) dW_law_223 h (fun z1 r1 m1 h => ?_)
  obtain ⟨sw1, rfl, h⟩ := h
  refine r_aload_n 2 2 rfl dW_law_226 rfl ?_
  refine r_aload_n 0 0 rfl dW_law_227 rfl ?_
  refine r_iload_n 3 3 rfl dW_law_228 rfl ?_
  refine r_iconst dW_law_229 ?_
  refine r_iadd dW_law_230 ?_
  refine r_sload h.1 dW_law_231 ?_
  replace h := h.2
  refine r_aload_n 0 0 rfl dW_law_232 rfl ?_
  refine r_iload_n 3 3 rfl dW_law_233 rfl ?_
  refine r_iconst dW_law_234 ?_
  refine r_iadd dW_law_235 ?_
  refine r_sload h.1 dW_law_236 ?_
  replace h := h.2
  refine r_callVi 12 [_, _] rfl c84 rfl rfl oY_part iY_part sY_part yW_17 (by decide) ⟨Nat.le_refl _, Nat.le_refl _⟩ rfl (Nat.le_of_ble_eq_true rfl) dW_law_237 h (fun z2 r2 m2 h => ?_)
  obtain ⟨sw2, rfl, h⟩ := h
  refine r_ifc_eq (tgt := 1430) dW_law_240 (by decide) (fun hc => ?_) (fun hc => ?_)
  · replace h := h.1 hc
    refine r_sub [0, 1, 2, 3] ?_ h
    rfl
  · replace h := h.2 hc
    refine r_iconst dW_law_243 ?_
    exact q_bret3 rfl (Or.inl rfl) h dW_law_244
set_option maxRecDepth 4000 in
theorem wW_law_245 {X : Cx} (x3 : Int) (sw : Bool) (m : Mem) (Q : Int → Bool → Mem → Prop) (h : ((0 ≤ w32 (x3 + 1) ∧ w32 (x3 + 1) < (xN X : Int)) ∧ ((0 ≤ w32 (x3 + 2) ∧ w32 (x3 + 2) < (xN X : Int)) ∧ ((0 ≤ w32 (x3 + 3) ∧ w32 (x3 + 3) < (xN X : Int)) ∧ M2 X 6 mZ_parts [vr 1, vi (xS X (w32 (x3 + 1)).toNat), vi (xS X (w32 (x3 + 2)).toNat), vi (xS X (w32 (x3 + 3)).toNat)] sw m (fun z1 sw1 m1 => ((0 ≤ w32 (x3 + 1) ∧ w32 (x3 + 1) < (xN X : Int)) ∧ ((0 ≤ w32 (x3 + 2) ∧ w32 (x3 + 2) < (xN X : Int)) ∧ ((0 ≤ w32 (x3 + 3) ∧ w32 (x3 + 3) < (xN X : Int)) ∧ M2 X 3 mY_parts [vr 84, vi (xS X (w32 (x3 + 1)).toNat), vi (xS X (w32 (x3 + 2)).toNat), vi (xS X (w32 (x3 + 3)).toNat)] sw1 m1 (fun z2 sw2 m2 => ((w32 z1 = w32 z2 → R3 X 84 mW_law 1430 [(0, vr 1007), (1, vr 1), (2, vr 84), (3, vi x3)] [] sw2 m2 Q) ∧ (¬ (w32 z1 = w32 z2) → Q 0 sw2 m2))))))))))) : R3 X 84 mW_law 245 [(0, vr 1007), (1, vr 1), (2, vr 84), (3, vi x3)] [] sw m Q := by
  refine r_aload_n 1 1 rfl dW_law_245 rfl ?_
  refine r_aload_n 0 0 rfl dW_law_246 rfl ?_
  refine r_iload_n 3 3 rfl dW_law_247 rfl ?_
  refine r_iconst dW_law_248 ?_
  refine r_iadd dW_law_249 ?_
  refine r_sload h.1 dW_law_250 ?_
  replace h := h.2
  refine r_aload_n 0 0 rfl dW_law_251 rfl ?_
  refine r_iload_n 3 3 rfl dW_law_252 rfl ?_
  refine r_iconst dW_law_253 ?_
  refine r_iadd dW_law_254 ?_
  refine r_sload h.1 dW_law_255 ?_
  replace h := h.2
  refine r_aload_n 0 0 rfl dW_law_256 rfl ?_
  refine r_iload_n 3 3 rfl dW_law_257 rfl ?_
  refine r_iconst dW_law_258 ?_
  refine r_iadd dW_law_259 ?_
  refine r_sload h.1 dW_law_260 ?_
  replace h := h.2
  refine r_callVi 0 [_, _, _] rfl c1 rfl rfl oZ_parts iZ_parts sZ_parts yW_18 (by decide) ⟨Nat.le_refl _, Nat.le_refl _⟩ rfl (Nat.le_of_ble_eq_true rfl) dW_law_261 h (fun z1 r1 m1 h => ?_)
  obtain ⟨sw1, rfl, h⟩ := h
  refine r_aload_n 2 2 rfl dW_law_264 rfl ?_
  refine r_aload_n 0 0 rfl dW_law_265 rfl ?_
  refine r_iload_n 3 3 rfl dW_law_266 rfl ?_
  refine r_iconst dW_law_267 ?_
  refine r_iadd dW_law_268 ?_
  refine r_sload h.1 dW_law_269 ?_
  replace h := h.2
  refine r_aload_n 0 0 rfl dW_law_270 rfl ?_
  refine r_iload_n 3 3 rfl dW_law_271 rfl ?_
  refine r_iconst dW_law_272 ?_
  refine r_iadd dW_law_273 ?_
  refine r_sload h.1 dW_law_274 ?_
  replace h := h.2
  refine r_aload_n 0 0 rfl dW_law_275 rfl ?_
  refine r_iload_n 3 3 rfl dW_law_276 rfl ?_
  refine r_iconst dW_law_277 ?_
  refine r_iadd dW_law_278 ?_
  refine r_sload h.1 dW_law_279 ?_
  replace h := h.2
  refine r_callVi 12 [_, _, _] rfl c84 rfl rfl oY_parts iY_parts sY_parts yW_22 (by decide) ⟨Nat.le_refl _, Nat.le_refl _⟩ rfl (Nat.le_of_ble_eq_true rfl) dW_law_280 h (fun z2 r2 m2 h => ?_)
  obtain ⟨sw2, rfl, h⟩ := h
  refine r_ifc_eq (tgt := 1430) dW_law_283 (by decide) (fun hc => ?_) (fun hc => ?_)
  · replace h := h.1 hc
    refine r_sub [0, 1, 2, 3] ?_ h
    rfl
  · replace h := h.2 hc
    refine r_iconst dW_law_286 ?_
    exact q_bret3 rfl (Or.inl rfl) h dW_law_287
set_option maxRecDepth 4000 in
theorem wW_law_288 {X : Cx} (x3 : Int) (sw : Bool) (m : Mem) (Q : Int → Bool → Mem → Prop) (h : ((0 ≤ w32 (x3 + 1) ∧ w32 (x3 + 1) < (xN X : Int)) ∧ ((0 ≤ w32 (x3 + 2) ∧ w32 (x3 + 2) < (xN X : Int)) ∧ ((0 ≤ w32 (x3 + 3) ∧ w32 (x3 + 3) < (xN X : Int)) ∧ M2 X 4 mZ_mend [vr 1, vi (xS X (w32 (x3 + 1)).toNat), vi (xS X (w32 (x3 + 2)).toNat), vi (xS X (w32 (x3 + 3)).toNat)] sw m (fun z1 sw1 m1 => ((0 ≤ w32 (x3 + 1) ∧ w32 (x3 + 1) < (xN X : Int)) ∧ ((0 ≤ w32 (x3 + 2) ∧ w32 (x3 + 2) < (xN X : Int)) ∧ ((0 ≤ w32 (x3 + 3) ∧ w32 (x3 + 3) < (xN X : Int)) ∧ M2 X 4 mY_mend [vr 84, vi (xS X (w32 (x3 + 1)).toNat), vi (xS X (w32 (x3 + 2)).toNat), vi (xS X (w32 (x3 + 3)).toNat)] sw1 m1 (fun z2 sw2 m2 => ((w32 z1 = w32 z2 → R3 X 84 mW_law 1430 [(0, vr 1007), (1, vr 1), (2, vr 84), (3, vi x3)] [] sw2 m2 Q) ∧ (¬ (w32 z1 = w32 z2) → Q 0 sw2 m2))))))))))) : R3 X 84 mW_law 288 [(0, vr 1007), (1, vr 1), (2, vr 84), (3, vi x3)] [] sw m Q := by
  refine r_aload_n 1 1 rfl dW_law_288 rfl ?_
  refine r_aload_n 0 0 rfl dW_law_289 rfl ?_
  refine r_iload_n 3 3 rfl dW_law_290 rfl ?_
  refine r_iconst dW_law_291 ?_
  refine r_iadd dW_law_292 ?_
  refine r_sload h.1 dW_law_293 ?_
  replace h := h.2
  refine r_aload_n 0 0 rfl dW_law_294 rfl ?_
  refine r_iload_n 3 3 rfl dW_law_295 rfl ?_
  refine r_iconst dW_law_296 ?_
  refine r_iadd dW_law_297 ?_
  refine r_sload h.1 dW_law_298 ?_
  replace h := h.2
  refine r_aload_n 0 0 rfl dW_law_299 rfl ?_
  refine r_iload_n 3 3 rfl dW_law_300 rfl ?_
  refine r_iconst dW_law_301 ?_
  refine r_iadd dW_law_302 ?_
  refine r_sload h.1 dW_law_303 ?_
  replace h := h.2
  refine r_callVi 0 [_, _, _] rfl c1 rfl rfl oZ_mend iZ_mend sZ_mend yW_23 (by decide) ⟨Nat.le_refl _, Nat.le_refl _⟩ rfl (Nat.le_of_ble_eq_true rfl) dW_law_304 h (fun z1 r1 m1 h => ?_)
  obtain ⟨sw1, rfl, h⟩ := h
  refine r_aload_n 2 2 rfl dW_law_307 rfl ?_
  refine r_aload_n 0 0 rfl dW_law_308 rfl ?_
  refine r_iload_n 3 3 rfl dW_law_309 rfl ?_
  refine r_iconst dW_law_310 ?_
  refine r_iadd dW_law_311 ?_
  refine r_sload h.1 dW_law_312 ?_
  replace h := h.2
  refine r_aload_n 0 0 rfl dW_law_313 rfl ?_
  refine r_iload_n 3 3 rfl dW_law_314 rfl ?_
  refine r_iconst dW_law_315 ?_
  refine r_iadd dW_law_316 ?_
  refine r_sload h.1 dW_law_317 ?_
  replace h := h.2
  refine r_aload_n 0 0 rfl dW_law_318 rfl ?_
  refine r_iload_n 3 3 rfl dW_law_319 rfl ?_
  refine r_iconst dW_law_320 ?_
  refine r_iadd dW_law_321 ?_
  refine r_sload h.1 dW_law_322 ?_
  replace h := h.2
  refine r_callVi 12 [_, _, _] rfl c84 rfl rfl oY_mend iY_mend sY_mend yW_26 (by decide) ⟨Nat.le_refl _, Nat.le_refl _⟩ rfl (Nat.le_of_ble_eq_true rfl) dW_law_323 h (fun z2 r2 m2 h => ?_)
  obtain ⟨sw2, rfl, h⟩ := h
  refine r_ifc_eq (tgt := 1430) dW_law_326 (by decide) (fun hc => ?_) (fun hc => ?_)
  · replace h := h.1 hc
    refine r_sub [0, 1, 2, 3] ?_ h
    rfl
  · replace h := h.2 hc
    refine r_iconst dW_law_329 ?_
    exact q_bret3 rfl (Or.inl rfl) h dW_law_330
set_option maxRecDepth 4000 in
theorem wW_law_331 {X : Cx} (x3 : Int) (sw : Bool) (m : Mem) (Q : Int → Bool → Mem → Prop) (h : ((0 ≤ w32 (x3 + 1) ∧ w32 (x3 + 1) < (xN X : Int)) ∧ ((0 ≤ w32 (x3 + 2) ∧ w32 (x3 + 2) < (xN X : Int)) ∧ M2 X 3 mZ_of [vr 1, vi (xS X (w32 (x3 + 1)).toNat), vi (xS X (w32 (x3 + 2)).toNat)] sw m (fun z1 sw1 m1 => ((0 ≤ w32 (x3 + 1) ∧ w32 (x3 + 1) < (xN X : Int)) ∧ ((0 ≤ w32 (x3 + 2) ∧ w32 (x3 + 2) < (xN X : Int)) ∧ M2 X 4 mY_of [vr 84, vi (xS X (w32 (x3 + 1)).toNat), vi (xS X (w32 (x3 + 2)).toNat)] sw1 m1 (fun z2 sw2 m2 => ((w32 z1 = w32 z2 → R3 X 84 mW_law 1430 [(0, vr 1007), (1, vr 1), (2, vr 84), (3, vi x3)] [] sw2 m2 Q) ∧ (¬ (w32 z1 = w32 z2) → Q 0 sw2 m2))))))))) : R3 X 84 mW_law 331 [(0, vr 1007), (1, vr 1), (2, vr 84), (3, vi x3)] [] sw m Q := by
  refine r_aload_n 1 1 rfl dW_law_331 rfl ?_
  refine r_aload_n 0 0 rfl dW_law_332 rfl ?_
  refine r_iload_n 3 3 rfl dW_law_333 rfl ?_
  refine r_iconst dW_law_334 ?_
  refine r_iadd dW_law_335 ?_
  refine r_sload h.1 dW_law_336 ?_
  replace h := h.2
  refine r_aload_n 0 0 rfl dW_law_337 rfl ?_
  refine r_iload_n 3 3 rfl dW_law_338 rfl ?_
  refine r_iconst dW_law_339 ?_
  refine r_iadd dW_law_340 ?_
  refine r_sload h.1 dW_law_341 ?_
  replace h := h.2
  refine r_callVi 0 [_, _] rfl c1 rfl rfl oZ_of iZ_of sZ_of yW_27 (by decide) ⟨Nat.le_refl _, Nat.le_refl _⟩ rfl (Nat.le_of_ble_eq_true rfl) dW_law_342 h (fun z1 r1 m1 h => ?_)
  obtain ⟨sw1, rfl, h⟩ := h
  refine r_aload_n 2 2 rfl dW_law_345 rfl ?_
  refine r_aload_n 0 0 rfl dW_law_346 rfl ?_
  refine r_iload_n 3 3 rfl dW_law_347 rfl ?_
  refine r_iconst dW_law_348 ?_
  refine r_iadd dW_law_349 ?_
  refine r_sload h.1 dW_law_350 ?_
  replace h := h.2
  refine r_aload_n 0 0 rfl dW_law_351 rfl ?_
  refine r_iload_n 3 3 rfl dW_law_352 rfl ?_
  refine r_iconst dW_law_353 ?_
  refine r_iadd dW_law_354 ?_
  refine r_sload h.1 dW_law_355 ?_
  replace h := h.2
  refine r_callVi 12 [_, _] rfl c84 rfl rfl oY_of iY_of sY_of yW_30 (by decide) ⟨Nat.le_refl _, Nat.le_refl _⟩ rfl (Nat.le_of_ble_eq_true rfl) dW_law_356 h (fun z2 r2 m2 h => ?_)
  obtain ⟨sw2, rfl, h⟩ := h
  refine r_ifc_eq (tgt := 1430) dW_law_359 (by decide) (fun hc => ?_) (fun hc => ?_)
  · replace h := h.1 hc
    refine r_sub [0, 1, 2, 3] ?_ h
    rfl
  · replace h := h.2 hc
    refine r_iconst dW_law_362 ?_
    exact q_bret3 rfl (Or.inl rfl) h dW_law_363
set_option maxRecDepth 4000 in
theorem wW_law_364 {X : Cx} (x3 : Int) (sw : Bool) (m : Mem) (Q : Int → Bool → Mem → Prop) (h : ((0 ≤ w32 (x3 + 1) ∧ w32 (x3 + 1) < (xN X : Int)) ∧ M2 X 2 mZ_feed [vr 1, vi (xS X (w32 (x3 + 1)).toNat)] sw m (fun z1 sw1 m1 => ((0 ≤ w32 (x3 + 1) ∧ w32 (x3 + 1) < (xN X : Int)) ∧ M2 X 2 mY_feed [vr 84, vi (xS X (w32 (x3 + 1)).toNat)] sw1 m1 (fun z2 sw2 m2 => ((w32 z1 = w32 z2 → R3 X 84 mW_law 1430 [(0, vr 1007), (1, vr 1), (2, vr 84), (3, vi x3)] [] sw2 m2 Q) ∧ (¬ (w32 z1 = w32 z2) → Q 0 sw2 m2))))))) : R3 X 84 mW_law 364 [(0, vr 1007), (1, vr 1), (2, vr 84), (3, vi x3)] [] sw m Q := by
  refine r_aload_n 1 1 rfl dW_law_364 rfl ?_
  refine r_aload_n 0 0 rfl dW_law_365 rfl ?_
  refine r_iload_n 3 3 rfl dW_law_366 rfl ?_
  refine r_iconst dW_law_367 ?_
  refine r_iadd dW_law_368 ?_
  refine r_sload h.1 dW_law_369 ?_
  replace h := h.2
  refine r_callVi 0 [_] rfl c1 rfl rfl oZ_feed iZ_feed sZ_feed yW_31 (by decide) ⟨Nat.le_refl _, Nat.le_refl _⟩ rfl (Nat.le_of_ble_eq_true rfl) dW_law_370 h (fun z1 r1 m1 h => ?_)
  obtain ⟨sw1, rfl, h⟩ := h
  refine r_aload_n 2 2 rfl dW_law_373 rfl ?_
  refine r_aload_n 0 0 rfl dW_law_374 rfl ?_
  refine r_iload_n 3 3 rfl dW_law_375 rfl ?_
  refine r_iconst dW_law_376 ?_
  refine r_iadd dW_law_377 ?_
  refine r_sload h.1 dW_law_378 ?_
  replace h := h.2
  refine r_callVi 12 [_] rfl c84 rfl rfl oY_feed iY_feed sY_feed yW_35 (by decide) ⟨Nat.le_refl _, Nat.le_refl _⟩ rfl (Nat.le_of_ble_eq_true rfl) dW_law_379 h (fun z2 r2 m2 h => ?_)
  obtain ⟨sw2, rfl, h⟩ := h
  refine r_ifc_eq (tgt := 1430) dW_law_382 (by decide) (fun hc => ?_) (fun hc => ?_)
  · replace h := h.1 hc
    refine r_sub [0, 1, 2, 3] ?_ h
    rfl
  · replace h := h.2 hc
    refine r_iconst dW_law_385 ?_
    exact q_bret3 rfl (Or.inl rfl) h dW_law_386
set_option maxRecDepth 4000 in
theorem wW_law_387 {X : Cx} (x3 : Int) (sw : Bool) (m : Mem) (Q : Int → Bool → Mem → Prop) (h : M2 X 83 mZ_law [vr 1] sw m (fun z1 sw1 m1 => M2 X 83 mY_law [vr 84] sw1 m1 (fun z2 sw2 m2 => ((w32 z1 = w32 z2 → R3 X 84 mW_law 1430 [(0, vr 1007), (1, vr 1), (2, vr 84), (3, vi x3)] [] sw2 m2 Q) ∧ (¬ (w32 z1 = w32 z2) → Q 0 sw2 m2))))) : R3 X 84 mW_law 387 [(0, vr 1007), (1, vr 1), (2, vr 84), (3, vi x3)] [] sw m Q := by
  refine r_aload_n 1 1 rfl dW_law_387 rfl ?_
  refine r_callVi 0 [] rfl c1 rfl rfl oZ_law iZ_law sZ_law yW_36 (by decide) ⟨Nat.le_refl _, Nat.le_refl _⟩ rfl (Nat.le_of_ble_eq_true rfl) dW_law_388 h (fun z1 r1 m1 h => ?_)
  obtain ⟨sw1, rfl, h⟩ := h
  refine r_aload_n 2 2 rfl dW_law_391 rfl ?_
  refine r_callVi 12 [] rfl c84 rfl rfl oY_law iY_law sY_law yW_40 (by decide) ⟨Nat.le_refl _, Nat.le_refl _⟩ rfl (Nat.le_of_ble_eq_true rfl) dW_law_392 h (fun z2 r2 m2 h => ?_)
  obtain ⟨sw2, rfl, h⟩ := h
  refine r_ifc_eq (tgt := 1430) dW_law_395 (by decide) (fun hc => ?_) (fun hc => ?_)
  · replace h := h.1 hc
    refine r_sub [0, 1, 2, 3] ?_ h
    rfl
  · replace h := h.2 hc
    refine r_iconst dW_law_398 ?_
    exact q_bret3 rfl (Or.inl rfl) h dW_law_399
set_option maxRecDepth 4000 in
theorem wW_law_400 {X : Cx} (x3 : Int) (sw : Bool) (m : Mem) (Q : Int → Bool → Mem → Prop) (h : ((0 ≤ w32 (x3 + 1) ∧ w32 (x3 + 1) < (xN X : Int)) ∧ M2 X 5 mZ_works [vr 1, vi (xS X (w32 (x3 + 1)).toNat)] sw m (fun z1 sw1 m1 => ((0 ≤ w32 (x3 + 1) ∧ w32 (x3 + 1) < (xN X : Int)) ∧ M2 X 5 mY_works [vr 84, vi (xS X (w32 (x3 + 1)).toNat)] sw1 m1 (fun z2 sw2 m2 => ((w32 z1 = w32 z2 → R3 X 84 mW_law 1430 [(0, vr 1007), (1, vr 1), (2, vr 84), (3, vi x3)] [] sw2 m2 Q) ∧ (¬ (w32 z1 = w32 z2) → Q 0 sw2 m2))))))) : R3 X 84 mW_law 400 [(0, vr 1007), (1, vr 1), (2, vr 84), (3, vi x3)] [] sw m Q := by
  refine r_aload_n 1 1 rfl dW_law_400 rfl ?_
  refine r_aload_n 0 0 rfl dW_law_401 rfl ?_
  refine r_iload_n 3 3 rfl dW_law_402 rfl ?_
  refine r_iconst dW_law_403 ?_
  refine r_iadd dW_law_404 ?_
  refine r_sload h.1 dW_law_405 ?_
  replace h := h.2
  refine r_callVi 0 [_] rfl c1 rfl rfl oZ_works iZ_works sZ_works yW_41 (by decide) ⟨Nat.le_refl _, Nat.le_refl _⟩ rfl (Nat.le_of_ble_eq_true rfl) dW_law_406 h (fun z1 r1 m1 h => ?_)
  obtain ⟨sw1, rfl, h⟩ := h
  refine r_aload_n 2 2 rfl dW_law_409 rfl ?_
  refine r_aload_n 0 0 rfl dW_law_410 rfl ?_
  refine r_iload_n 3 3 rfl dW_law_411 rfl ?_
  refine r_iconst dW_law_412 ?_
  refine r_iadd dW_law_413 ?_
  refine r_sload h.1 dW_law_414 ?_
  replace h := h.2
  refine r_callVi 12 [_] rfl c84 rfl rfl oY_works iY_works sY_works yW_44 (by decide) ⟨Nat.le_refl _, Nat.le_refl _⟩ rfl (Nat.le_of_ble_eq_true rfl) dW_law_415 h (fun z2 r2 m2 h => ?_)
  obtain ⟨sw2, rfl, h⟩ := h
  refine r_ifc_eq (tgt := 1430) dW_law_418 (by decide) (fun hc => ?_) (fun hc => ?_)
  · replace h := h.1 hc
    refine r_sub [0, 1, 2, 3] ?_ h
    rfl
  · replace h := h.2 hc
    refine r_iconst dW_law_421 ?_
    exact q_bret3 rfl (Or.inl rfl) h dW_law_422
set_option maxRecDepth 4000 in
theorem wW_law_423 {X : Cx} (x3 : Int) (sw : Bool) (m : Mem) (Q : Int → Bool → Mem → Prop) (h : ((0 ≤ w32 (x3 + 1) ∧ w32 (x3 + 1) < (xN X : Int)) ∧ ((0 ≤ w32 (x3 + 2) ∧ w32 (x3 + 2) < (xN X : Int)) ∧ M2 X 6 mZ_gone [vr 1, vi (xS X (w32 (x3 + 1)).toNat), vi (xS X (w32 (x3 + 2)).toNat)] sw m (fun z1 sw1 m1 => ((0 ≤ w32 (x3 + 1) ∧ w32 (x3 + 1) < (xN X : Int)) ∧ ((0 ≤ w32 (x3 + 2) ∧ w32 (x3 + 2) < (xN X : Int)) ∧ M2 X 3 mY_gone [vr 84, vi (xS X (w32 (x3 + 1)).toNat), vi (xS X (w32 (x3 + 2)).toNat)] sw1 m1 (fun z2 sw2 m2 => ((w32 z1 = w32 z2 → R3 X 84 mW_law 1430 [(0, vr 1007), (1, vr 1), (2, vr 84), (3, vi x3)] [] sw2 m2 Q) ∧ (¬ (w32 z1 = w32 z2) → Q 0 sw2 m2))))))))) : R3 X 84 mW_law 423 [(0, vr 1007), (1, vr 1), (2, vr 84), (3, vi x3)] [] sw m Q := by
  refine r_aload_n 1 1 rfl dW_law_423 rfl ?_
  refine r_aload_n 0 0 rfl dW_law_424 rfl ?_
  refine r_iload_n 3 3 rfl dW_law_425 rfl ?_
  refine r_iconst dW_law_426 ?_
  refine r_iadd dW_law_427 ?_
  refine r_sload h.1 dW_law_428 ?_
  replace h := h.2
  refine r_aload_n 0 0 rfl dW_law_429 rfl ?_
  refine r_iload_n 3 3 rfl dW_law_430 rfl ?_
  refine r_iconst dW_law_431 ?_
  refine r_iadd dW_law_432 ?_
  refine r_sload h.1 dW_law_433 ?_
  replace h := h.2
  refine r_callVi 0 [_, _] rfl c1 rfl rfl oZ_gone iZ_gone sZ_gone yW_45 (by decide) ⟨Nat.le_refl _, Nat.le_refl _⟩ rfl (Nat.le_of_ble_eq_true rfl) dW_law_434 h (fun z1 r1 m1 h => ?_)
  obtain ⟨sw1, rfl, h⟩ := h
  refine r_aload_n 2 2 rfl dW_law_437 rfl ?_
  refine r_aload_n 0 0 rfl dW_law_438 rfl ?_
  refine r_iload_n 3 3 rfl dW_law_439 rfl ?_
  refine r_iconst dW_law_440 ?_
  refine r_iadd dW_law_441 ?_
  refine r_sload h.1 dW_law_442 ?_
  replace h := h.2
  refine r_aload_n 0 0 rfl dW_law_443 rfl ?_
  refine r_iload_n 3 3 rfl dW_law_444 rfl ?_
  refine r_iconst dW_law_445 ?_
  refine r_iadd dW_law_446 ?_
  refine r_sload h.1 dW_law_447 ?_
  replace h := h.2
  refine r_callVi 12 [_, _] rfl c84 rfl rfl oY_gone iY_gone sY_gone yW_48 (by decide) ⟨Nat.le_refl _, Nat.le_refl _⟩ rfl (Nat.le_of_ble_eq_true rfl) dW_law_448 h (fun z2 r2 m2 h => ?_)
  obtain ⟨sw2, rfl, h⟩ := h
  refine r_ifc_eq (tgt := 1430) dW_law_451 (by decide) (fun hc => ?_) (fun hc => ?_)
  · replace h := h.1 hc
    refine r_sub [0, 1, 2, 3] ?_ h
    rfl
  · replace h := h.2 hc
    refine r_iconst dW_law_454 ?_
    exact q_bret3 rfl (Or.inl rfl) h dW_law_455
set_option maxRecDepth 4000 in
theorem wW_law_456 {X : Cx} (x3 : Int) (sw : Bool) (m : Mem) (Q : Int → Bool → Mem → Prop) (h : ((0 ≤ w32 (x3 + 1) ∧ w32 (x3 + 1) < (xN X : Int)) ∧ M2 X 6 mZ_stuck [vr 1, vi (xS X (w32 (x3 + 1)).toNat)] sw m (fun z1 sw1 m1 => ((0 ≤ w32 (x3 + 1) ∧ w32 (x3 + 1) < (xN X : Int)) ∧ M2 X 3 mY_stuck [vr 84, vi (xS X (w32 (x3 + 1)).toNat)] sw1 m1 (fun z2 sw2 m2 => ((w32 z1 = w32 z2 → R3 X 84 mW_law 1430 [(0, vr 1007), (1, vr 1), (2, vr 84), (3, vi x3)] [] sw2 m2 Q) ∧ (¬ (w32 z1 = w32 z2) → Q 0 sw2 m2))))))) : R3 X 84 mW_law 456 [(0, vr 1007), (1, vr 1), (2, vr 84), (3, vi x3)] [] sw m Q := by
  refine r_aload_n 1 1 rfl dW_law_456 rfl ?_
  refine r_aload_n 0 0 rfl dW_law_457 rfl ?_
  refine r_iload_n 3 3 rfl dW_law_458 rfl ?_
  refine r_iconst dW_law_459 ?_
  refine r_iadd dW_law_460 ?_
  refine r_sload h.1 dW_law_461 ?_
  replace h := h.2
  refine r_callVi 0 [_] rfl c1 rfl rfl oZ_stuck iZ_stuck sZ_stuck yW_49 (by decide) ⟨Nat.le_refl _, Nat.le_refl _⟩ rfl (Nat.le_of_ble_eq_true rfl) dW_law_462 h (fun z1 r1 m1 h => ?_)
  obtain ⟨sw1, rfl, h⟩ := h
  refine r_aload_n 2 2 rfl dW_law_465 rfl ?_
  refine r_aload_n 0 0 rfl dW_law_466 rfl ?_
  refine r_iload_n 3 3 rfl dW_law_467 rfl ?_
  refine r_iconst dW_law_468 ?_
  refine r_iadd dW_law_469 ?_
  refine r_sload h.1 dW_law_470 ?_
  replace h := h.2
  refine r_callVi 12 [_] rfl c84 rfl rfl oY_stuck iY_stuck sY_stuck yW_52 (by decide) ⟨Nat.le_refl _, Nat.le_refl _⟩ rfl (Nat.le_of_ble_eq_true rfl) dW_law_471 h (fun z2 r2 m2 h => ?_)
  obtain ⟨sw2, rfl, h⟩ := h
  refine r_ifc_eq (tgt := 1430) dW_law_474 (by decide) (fun hc => ?_) (fun hc => ?_)
  · replace h := h.1 hc
    refine r_sub [0, 1, 2, 3] ?_ h
    rfl
  · replace h := h.2 hc
    refine r_iconst dW_law_477 ?_
    exact q_bret3 rfl (Or.inl rfl) h dW_law_478
set_option maxRecDepth 4000 in
theorem wW_law_479 {X : Cx} (x3 : Int) (sw : Bool) (m : Mem) (Q : Int → Bool → Mem → Prop) (h : ((0 ≤ w32 (x3 + 1) ∧ w32 (x3 + 1) < (xN X : Int)) ∧ ((0 ≤ w32 (x3 + 2) ∧ w32 (x3 + 2) < (xN X : Int)) ∧ M2 X 7 mZ_likely [vr 1, vi (xS X (w32 (x3 + 1)).toNat), vi (xS X (w32 (x3 + 2)).toNat)] sw m (fun z1 sw1 m1 => ((0 ≤ w32 (x3 + 1) ∧ w32 (x3 + 1) < (xN X : Int)) ∧ ((0 ≤ w32 (x3 + 2) ∧ w32 (x3 + 2) < (xN X : Int)) ∧ M2 X 6 mY_likely [vr 84, vi (xS X (w32 (x3 + 1)).toNat), vi (xS X (w32 (x3 + 2)).toNat)] sw1 m1 (fun z2 sw2 m2 => ((w64 z1 = w64 z2 → R3 X 84 mW_law 1430 [(0, vr 1007), (1, vr 1), (2, vr 84), (3, vi x3)] [] sw2 m2 Q) ∧ (¬ (w64 z1 = w64 z2) → Q 0 sw2 m2))))))))) : R3 X 84 mW_law 479 [(0, vr 1007), (1, vr 1), (2, vr 84), (3, vi x3)] [] sw m Q := by
  refine r_aload_n 1 1 rfl dW_law_479 rfl ?_
  refine r_aload_n 0 0 rfl dW_law_480 rfl ?_
  refine r_iload_n 3 3 rfl dW_law_481 rfl ?_
  refine r_iconst dW_law_482 ?_
  refine r_iadd dW_law_483 ?_
  refine r_sload h.1 dW_law_484 ?_
  replace h := h.2
  refine r_aload_n 0 0 rfl dW_law_485 rfl ?_
  refine r_iload_n 3 3 rfl dW_law_486 rfl ?_
  refine r_iconst dW_law_487 ?_
  refine r_iadd dW_law_488 ?_
  refine r_sload h.1 dW_law_489 ?_
  replace h := h.2
  refine r_callVl 0 [_, _] rfl c1 rfl rfl oZ_likely iZ_likely sZ_likely yW_53 (by decide) ⟨Nat.le_refl _, Nat.le_refl _⟩ rfl (Nat.le_of_ble_eq_true rfl) dW_law_490 h (fun z1 r1 m1 h => ?_)
  obtain ⟨sw1, rfl, h⟩ := h
  refine r_aload_n 2 2 rfl dW_law_493 rfl ?_
  refine r_aload_n 0 0 rfl dW_law_494 rfl ?_
  refine r_iload_n 3 3 rfl dW_law_495 rfl ?_
  refine r_iconst dW_law_496 ?_
  refine r_iadd dW_law_497 ?_
  refine r_sload h.1 dW_law_498 ?_
  replace h := h.2
  refine r_aload_n 0 0 rfl dW_law_499 rfl ?_
  refine r_iload_n 3 3 rfl dW_law_500 rfl ?_
  refine r_iconst dW_law_501 ?_
  refine r_iadd dW_law_502 ?_
  refine r_sload h.1 dW_law_503 ?_
  replace h := h.2
  refine r_callVl 12 [_, _] rfl c84 rfl rfl oY_likely iY_likely sY_likely yW_57 (by decide) ⟨Nat.le_refl _, Nat.le_refl _⟩ rfl (Nat.le_of_ble_eq_true rfl) dW_law_504 h (fun z2 r2 m2 h => ?_)
  obtain ⟨sw2, rfl, h⟩ := h
  refine q_lc_eq (tgt := 1430) (A := w64 z1) (B := w64 z2) rfl rfl dW_law_507 dW_law_508 (by decide) (fun hc => ?_) (fun hc => ?_)
  · replace h := h.1 hc
    refine r_sub [0, 1, 2, 3] ?_ h
    rfl
  · replace h := h.2 hc
    refine r_iconst dW_law_511 ?_
    exact q_bret3 rfl (Or.inl rfl) h dW_law_512
set_option maxRecDepth 4000 in
theorem wW_law_513 {X : Cx} (x3 : Int) (sw : Bool) (m : Mem) (Q : Int → Bool → Mem → Prop) (h : ((0 ≤ w32 (x3 + 1) ∧ w32 (x3 + 1) < (xN X : Int)) ∧ M2 X 7 mZ_when [vr 1, vi (xS X (w32 (x3 + 1)).toNat)] sw m (fun z1 sw1 m1 => ((0 ≤ w32 (x3 + 1) ∧ w32 (x3 + 1) < (xN X : Int)) ∧ M2 X 6 mY_when [vr 84, vi (xS X (w32 (x3 + 1)).toNat)] sw1 m1 (fun z2 sw2 m2 => ((w32 z1 = w32 z2 → R3 X 84 mW_law 1430 [(0, vr 1007), (1, vr 1), (2, vr 84), (3, vi x3)] [] sw2 m2 Q) ∧ (¬ (w32 z1 = w32 z2) → Q 0 sw2 m2))))))) : R3 X 84 mW_law 513 [(0, vr 1007), (1, vr 1), (2, vr 84), (3, vi x3)] [] sw m Q := by
  refine r_aload_n 1 1 rfl dW_law_513 rfl ?_
  refine r_aload_n 0 0 rfl dW_law_514 rfl ?_
  refine r_iload_n 3 3 rfl dW_law_515 rfl ?_
  refine r_iconst dW_law_516 ?_
  refine r_iadd dW_law_517 ?_
  refine r_sload h.1 dW_law_518 ?_
  replace h := h.2
  refine r_callVi 0 [_] rfl c1 rfl rfl oZ_when iZ_when sZ_when yW_58 (by decide) ⟨Nat.le_refl _, Nat.le_refl _⟩ rfl (Nat.le_of_ble_eq_true rfl) dW_law_519 h (fun z1 r1 m1 h => ?_)
  obtain ⟨sw1, rfl, h⟩ := h
  refine r_aload_n 2 2 rfl dW_law_522 rfl ?_
  refine r_aload_n 0 0 rfl dW_law_523 rfl ?_
  refine r_iload_n 3 3 rfl dW_law_524 rfl ?_
  refine r_iconst dW_law_525 ?_
  refine r_iadd dW_law_526 ?_
  refine r_sload h.1 dW_law_527 ?_
  replace h := h.2
  refine r_callVi 12 [_] rfl c84 rfl rfl oY_when iY_when sY_when yW_61 (by decide) ⟨Nat.le_refl _, Nat.le_refl _⟩ rfl (Nat.le_of_ble_eq_true rfl) dW_law_528 h (fun z2 r2 m2 h => ?_)
  obtain ⟨sw2, rfl, h⟩ := h
  refine r_ifc_eq (tgt := 1430) dW_law_531 (by decide) (fun hc => ?_) (fun hc => ?_)
  · replace h := h.1 hc
    refine r_sub [0, 1, 2, 3] ?_ h
    rfl
  · replace h := h.2 hc
    refine r_iconst dW_law_534 ?_
    exact q_bret3 rfl (Or.inl rfl) h dW_law_535
set_option maxRecDepth 4000 in
theorem wW_law_536 {X : Cx} (x3 : Int) (sw : Bool) (m : Mem) (Q : Int → Bool → Mem → Prop) (h : ((0 ≤ w32 (x3 + 1) ∧ w32 (x3 + 1) < (xN X : Int)) ∧ M2 X 7 mZ_mean [vr 1, vi (xS X (w32 (x3 + 1)).toNat)] sw m (fun z1 sw1 m1 => ((0 ≤ w32 (x3 + 1) ∧ w32 (x3 + 1) < (xN X : Int)) ∧ M2 X 6 mY_mean [vr 84, vi (xS X (w32 (x3 + 1)).toNat)] sw1 m1 (fun z2 sw2 m2 => ((w64 z1 = w64 z2 → R3 X 84 mW_law 1430 [(0, vr 1007), (1, vr 1), (2, vr 84), (3, vi x3)] [] sw2 m2 Q) ∧ (¬ (w64 z1 = w64 z2) → Q 0 sw2 m2))))))) : R3 X 84 mW_law 536 [(0, vr 1007), (1, vr 1), (2, vr 84), (3, vi x3)] [] sw m Q := by
  refine r_aload_n 1 1 rfl dW_law_536 rfl ?_
  refine r_aload_n 0 0 rfl dW_law_537 rfl ?_
  refine r_iload_n 3 3 rfl dW_law_538 rfl ?_
  refine r_iconst dW_law_539 ?_
  refine r_iadd dW_law_540 ?_
  refine r_sload h.1 dW_law_541 ?_
  replace h := h.2
  refine r_callVl 0 [_] rfl c1 rfl rfl oZ_mean iZ_mean sZ_mean yW_62 (by decide) ⟨Nat.le_refl _, Nat.le_refl _⟩ rfl (Nat.le_of_ble_eq_true rfl) dW_law_542 h (fun z1 r1 m1 h => ?_)
  obtain ⟨sw1, rfl, h⟩ := h
  refine r_aload_n 2 2 rfl dW_law_545 rfl ?_
  refine r_aload_n 0 0 rfl dW_law_546 rfl ?_
  refine r_iload_n 3 3 rfl dW_law_547 rfl ?_
  refine r_iconst dW_law_548 ?_
  refine r_iadd dW_law_549 ?_
  refine r_sload h.1 dW_law_550 ?_
  replace h := h.2
  refine r_callVl 12 [_] rfl c84 rfl rfl oY_mean iY_mean sY_mean yW_66 (by decide) ⟨Nat.le_refl _, Nat.le_refl _⟩ rfl (Nat.le_of_ble_eq_true rfl) dW_law_551 h (fun z2 r2 m2 h => ?_)
  obtain ⟨sw2, rfl, h⟩ := h
  refine q_lc_eq (tgt := 1430) (A := w64 z1) (B := w64 z2) rfl rfl dW_law_554 dW_law_555 (by decide) (fun hc => ?_) (fun hc => ?_)
  · replace h := h.1 hc
    refine r_sub [0, 1, 2, 3] ?_ h
    rfl
  · replace h := h.2 hc
    refine r_iconst dW_law_558 ?_
    exact q_bret3 rfl (Or.inl rfl) h dW_law_559
set_option maxRecDepth 4000 in
theorem wW_law_560 {X : Cx} (x3 : Int) (sw : Bool) (m : Mem) (Q : Int → Bool → Mem → Prop) (h : ((0 ≤ w32 (x3 + 1) ∧ w32 (x3 + 1) < (xN X : Int)) ∧ M2 X 7 mZ_worth [vr 1, vi (xS X (w32 (x3 + 1)).toNat)] sw m (fun z1 sw1 m1 => ((0 ≤ w32 (x3 + 1) ∧ w32 (x3 + 1) < (xN X : Int)) ∧ M2 X 7 mY_worth [vr 84, vi (xS X (w32 (x3 + 1)).toNat)] sw1 m1 (fun z2 sw2 m2 => ((w32 z1 = w32 z2 → R3 X 84 mW_law 1430 [(0, vr 1007), (1, vr 1), (2, vr 84), (3, vi x3)] [] sw2 m2 Q) ∧ (¬ (w32 z1 = w32 z2) → Q 0 sw2 m2))))))) : R3 X 84 mW_law 560 [(0, vr 1007), (1, vr 1), (2, vr 84), (3, vi x3)] [] sw m Q := by
  refine r_aload_n 1 1 rfl dW_law_560 rfl ?_
  refine r_aload_n 0 0 rfl dW_law_561 rfl ?_
  refine r_iload_n 3 3 rfl dW_law_562 rfl ?_
  refine r_iconst dW_law_563 ?_
  refine r_iadd dW_law_564 ?_
  refine r_sload h.1 dW_law_565 ?_
  replace h := h.2
  refine r_callVi 0 [_] rfl c1 rfl rfl oZ_worth iZ_worth sZ_worth yW_67 (by decide) ⟨Nat.le_refl _, Nat.le_refl _⟩ rfl (Nat.le_of_ble_eq_true rfl) dW_law_566 h (fun z1 r1 m1 h => ?_)
  obtain ⟨sw1, rfl, h⟩ := h
  refine r_aload_n 2 2 rfl dW_law_569 rfl ?_
  refine r_aload_n 0 0 rfl dW_law_570 rfl ?_
  refine r_iload_n 3 3 rfl dW_law_571 rfl ?_
  refine r_iconst dW_law_572 ?_
  refine r_iadd dW_law_573 ?_
  refine r_sload h.1 dW_law_574 ?_
  replace h := h.2
  refine r_callVi 12 [_] rfl c84 rfl rfl oY_worth iY_worth sY_worth yW_70 (by decide) ⟨Nat.le_refl _, Nat.le_refl _⟩ rfl (Nat.le_of_ble_eq_true rfl) dW_law_575 h (fun z2 r2 m2 h => ?_)
  obtain ⟨sw2, rfl, h⟩ := h
  refine r_ifc_eq (tgt := 1430) dW_law_578 (by decide) (fun hc => ?_) (fun hc => ?_)
  · replace h := h.1 hc
    refine r_sub [0, 1, 2, 3] ?_ h
    rfl
  · replace h := h.2 hc
    refine r_iconst dW_law_581 ?_
    exact q_bret3 rfl (Or.inl rfl) h dW_law_582
set_option maxRecDepth 4000 in
theorem wW_law_583 {X : Cx} (x3 : Int) (sw : Bool) (m : Mem) (Q : Int → Bool → Mem → Prop) (h : ((0 ≤ w32 (x3 + 1) ∧ w32 (x3 + 1) < (xN X : Int)) ∧ M2 X 7 mZ_begin [vr 1, vi (xS X (w32 (x3 + 1)).toNat)] sw m (fun z1 sw1 m1 => ((0 ≤ w32 (x3 + 1) ∧ w32 (x3 + 1) < (xN X : Int)) ∧ M2 X 7 mY_begin [vr 84, vi (xS X (w32 (x3 + 1)).toNat)] sw1 m1 (fun z2 sw2 m2 => ((w32 z1 = w32 z2 → R3 X 84 mW_law 1430 [(0, vr 1007), (1, vr 1), (2, vr 84), (3, vi x3)] [] sw2 m2 Q) ∧ (¬ (w32 z1 = w32 z2) → Q 0 sw2 m2))))))) : R3 X 84 mW_law 583 [(0, vr 1007), (1, vr 1), (2, vr 84), (3, vi x3)] [] sw m Q := by
  refine r_aload_n 1 1 rfl dW_law_583 rfl ?_
  refine r_aload_n 0 0 rfl dW_law_584 rfl ?_
  refine r_iload_n 3 3 rfl dW_law_585 rfl ?_
  refine r_iconst dW_law_586 ?_
  refine r_iadd dW_law_587 ?_
  refine r_sload h.1 dW_law_588 ?_
  replace h := h.2
  refine r_callVi 0 [_] rfl c1 rfl rfl oZ_begin iZ_begin sZ_begin yW_71 (by decide) ⟨Nat.le_refl _, Nat.le_refl _⟩ rfl (Nat.le_of_ble_eq_true rfl) dW_law_589 h (fun z1 r1 m1 h => ?_)
  obtain ⟨sw1, rfl, h⟩ := h
  refine r_aload_n 2 2 rfl dW_law_592 rfl ?_
  refine r_aload_n 0 0 rfl dW_law_593 rfl ?_
  refine r_iload_n 3 3 rfl dW_law_594 rfl ?_
  refine r_iconst dW_law_595 ?_
  refine r_iadd dW_law_596 ?_
  refine r_sload h.1 dW_law_597 ?_
  replace h := h.2
  refine r_callVi 12 [_] rfl c84 rfl rfl oY_begin iY_begin sY_begin yW_74 (by decide) ⟨Nat.le_refl _, Nat.le_refl _⟩ rfl (Nat.le_of_ble_eq_true rfl) dW_law_598 h (fun z2 r2 m2 h => ?_)
  obtain ⟨sw2, rfl, h⟩ := h
  refine r_ifc_eq (tgt := 1430) dW_law_601 (by decide) (fun hc => ?_) (fun hc => ?_)
  · replace h := h.1 hc
    refine r_sub [0, 1, 2, 3] ?_ h
    rfl
  · replace h := h.2 hc
    refine r_iconst dW_law_604 ?_
    exact q_bret3 rfl (Or.inl rfl) h dW_law_605
set_option maxRecDepth 4000 in
theorem wW_law_606 {X : Cx} (x3 : Int) (sw : Bool) (m : Mem) (Q : Int → Bool → Mem → Prop) (h : ((0 ≤ w32 (x3 + 1) ∧ w32 (x3 + 1) < (xN X : Int)) ∧ ((0 ≤ w32 (x3 + 2) ∧ w32 (x3 + 2) < (xN X : Int)) ∧ M2 X 7 mZ_change [vr 1, vi (xS X (w32 (x3 + 1)).toNat), vi (xS X (w32 (x3 + 2)).toNat)] sw m (fun z1 sw1 m1 => ((0 ≤ w32 (x3 + 1) ∧ w32 (x3 + 1) < (xN X : Int)) ∧ ((0 ≤ w32 (x3 + 2) ∧ w32 (x3 + 2) < (xN X : Int)) ∧ M2 X 7 mY_change [vr 84, vi (xS X (w32 (x3 + 1)).toNat), vi (xS X (w32 (x3 + 2)).toNat)] sw1 m1 (fun z2 sw2 m2 => ((w32 z1 = w32 z2 → R3 X 84 mW_law 1430 [(0, vr 1007), (1, vr 1), (2, vr 84), (3, vi x3)] [] sw2 m2 Q) ∧ (¬ (w32 z1 = w32 z2) → Q 0 sw2 m2))))))))) : R3 X 84 mW_law 606 [(0, vr 1007), (1, vr 1), (2, vr 84), (3, vi x3)] [] sw m Q := by
  refine r_aload_n 1 1 rfl dW_law_606 rfl ?_
  refine r_aload_n 0 0 rfl dW_law_607 rfl ?_
  refine r_iload_n 3 3 rfl dW_law_608 rfl ?_
  refine r_iconst dW_law_609 ?_
  refine r_iadd dW_law_610 ?_
  refine r_sload h.1 dW_law_611 ?_
  replace h := h.2
  refine r_aload_n 0 0 rfl dW_law_612 rfl ?_
  refine r_iload_n 3 3 rfl dW_law_613 rfl ?_
  refine r_iconst dW_law_614 ?_
  refine r_iadd dW_law_615 ?_
  refine r_sload h.1 dW_law_616 ?_
  replace h := h.2
  refine r_callVi 0 [_, _] rfl c1 rfl rfl oZ_change iZ_change sZ_change yW_75 (by decide) ⟨Nat.le_refl _, Nat.le_refl _⟩ rfl (Nat.le_of_ble_eq_true rfl) dW_law_617 h (fun z1 r1 m1 h => ?_)
  obtain ⟨sw1, rfl, h⟩ := h
  refine r_aload_n 2 2 rfl dW_law_620 rfl ?_
  refine r_aload_n 0 0 rfl dW_law_621 rfl ?_
  refine r_iload_n 3 3 rfl dW_law_622 rfl ?_
  refine r_iconst dW_law_623 ?_
  refine r_iadd dW_law_624 ?_
  refine r_sload h.1 dW_law_625 ?_
  replace h := h.2
  refine r_aload_n 0 0 rfl dW_law_626 rfl ?_
  refine r_iload_n 3 3 rfl dW_law_627 rfl ?_
  refine r_iconst dW_law_628 ?_
  refine r_iadd dW_law_629 ?_
  refine r_sload h.1 dW_law_630 ?_
  replace h := h.2
  refine r_callVi 12 [_, _] rfl c84 rfl rfl oY_change iY_change sY_change yW_78 (by decide) ⟨Nat.le_refl _, Nat.le_refl _⟩ rfl (Nat.le_of_ble_eq_true rfl) dW_law_631 h (fun z2 r2 m2 h => ?_)
  obtain ⟨sw2, rfl, h⟩ := h
  refine r_ifc_eq (tgt := 1430) dW_law_634 (by decide) (fun hc => ?_) (fun hc => ?_)
  · replace h := h.1 hc
    refine r_sub [0, 1, 2, 3] ?_ h
    rfl
  · replace h := h.2 hc
    refine r_iconst dW_law_637 ?_
    exact q_bret3 rfl (Or.inl rfl) h dW_law_638
set_option maxRecDepth 4000 in
theorem wW_law_639 {X : Cx} (x3 : Int) (sw : Bool) (m : Mem) (Q : Int → Bool → Mem → Prop) (h : ((0 ≤ w32 (x3 + 1) ∧ w32 (x3 + 1) < (xN X : Int)) ∧ M2 X 7 mZ_fire [vr 1, vi (xS X (w32 (x3 + 1)).toNat)] sw m (fun z1 sw1 m1 => ((0 ≤ w32 (x3 + 1) ∧ w32 (x3 + 1) < (xN X : Int)) ∧ M2 X 6 mY_fire [vr 84, vi (xS X (w32 (x3 + 1)).toNat)] sw1 m1 (fun z2 sw2 m2 => ((w64 z1 = w64 z2 → R3 X 84 mW_law 1430 [(0, vr 1007), (1, vr 1), (2, vr 84), (3, vi x3)] [] sw2 m2 Q) ∧ (¬ (w64 z1 = w64 z2) → Q 0 sw2 m2))))))) : R3 X 84 mW_law 639 [(0, vr 1007), (1, vr 1), (2, vr 84), (3, vi x3)] [] sw m Q := by
  refine r_aload_n 1 1 rfl dW_law_639 rfl ?_
  refine r_aload_n 0 0 rfl dW_law_640 rfl ?_
  refine r_iload_n 3 3 rfl dW_law_641 rfl ?_
  refine r_iconst dW_law_642 ?_
  refine r_iadd dW_law_643 ?_
  refine r_sload h.1 dW_law_644 ?_
  replace h := h.2
  refine r_callVl 0 [_] rfl c1 rfl rfl oZ_fire iZ_fire sZ_fire yW_79 (by decide) ⟨Nat.le_refl _, Nat.le_refl _⟩ rfl (Nat.le_of_ble_eq_true rfl) dW_law_645 h (fun z1 r1 m1 h => ?_)
  obtain ⟨sw1, rfl, h⟩ := h
  refine r_aload_n 2 2 rfl dW_law_648 rfl ?_
  refine r_aload_n 0 0 rfl dW_law_649 rfl ?_
  refine r_iload_n 3 3 rfl dW_law_650 rfl ?_
  refine r_iconst dW_law_651 ?_
  refine r_iadd dW_law_652 ?_
  refine r_sload h.1 dW_law_653 ?_
  replace h := h.2
  refine r_callVl 12 [_] rfl c84 rfl rfl oY_fire iY_fire sY_fire yW_82 (by decide) ⟨Nat.le_refl _, Nat.le_refl _⟩ rfl (Nat.le_of_ble_eq_true rfl) dW_law_654 h (fun z2 r2 m2 h => ?_)
  obtain ⟨sw2, rfl, h⟩ := h
  refine q_lc_eq (tgt := 1430) (A := w64 z1) (B := w64 z2) rfl rfl dW_law_657 dW_law_658 (by decide) (fun hc => ?_) (fun hc => ?_)
  · replace h := h.1 hc
    refine r_sub [0, 1, 2, 3] ?_ h
    rfl
  · replace h := h.2 hc
    refine r_iconst dW_law_661 ?_
    exact q_bret3 rfl (Or.inl rfl) h dW_law_662
set_option maxRecDepth 4000 in
theorem wW_law_663 {X : Cx} (x3 : Int) (sw : Bool) (m : Mem) (Q : Int → Bool → Mem → Prop) (h : ((0 ≤ w32 (x3 + 1) ∧ w32 (x3 + 1) < (xN X : Int)) ∧ ((0 ≤ w32 (x3 + 2) ∧ w32 (x3 + 2) < (xN X : Int)) ∧ ((0 ≤ w32 (x3 + 3) ∧ w32 (x3 + 3) < (xN X : Int)) ∧ M2 X 7 mZ_failed [vr 1, vi (xS X (w32 (x3 + 1)).toNat), vi (xS X (w32 (x3 + 2)).toNat), vi (xS X (w32 (x3 + 3)).toNat)] sw m (fun z1 sw1 m1 => ((0 ≤ w32 (x3 + 1) ∧ w32 (x3 + 1) < (xN X : Int)) ∧ ((0 ≤ w32 (x3 + 2) ∧ w32 (x3 + 2) < (xN X : Int)) ∧ ((0 ≤ w32 (x3 + 3) ∧ w32 (x3 + 3) < (xN X : Int)) ∧ M2 X 7 mY_failed [vr 84, vi (xS X (w32 (x3 + 1)).toNat), vi (xS X (w32 (x3 + 2)).toNat), vi (xS X (w32 (x3 + 3)).toNat)] sw1 m1 (fun z2 sw2 m2 => ((w64 z1 = w64 z2 → R3 X 84 mW_law 1430 [(0, vr 1007), (1, vr 1), (2, vr 84), (3, vi x3)] [] sw2 m2 Q) ∧ (¬ (w64 z1 = w64 z2) → Q 0 sw2 m2))))))))))) : R3 X 84 mW_law 663 [(0, vr 1007), (1, vr 1), (2, vr 84), (3, vi x3)] [] sw m Q := by
  refine r_aload_n 1 1 rfl dW_law_663 rfl ?_
  refine r_aload_n 0 0 rfl dW_law_664 rfl ?_
  refine r_iload_n 3 3 rfl dW_law_665 rfl ?_
  refine r_iconst dW_law_666 ?_
  refine r_iadd dW_law_667 ?_
  refine r_sload h.1 dW_law_668 ?_
  replace h := h.2
  refine r_aload_n 0 0 rfl dW_law_669 rfl ?_
  refine r_iload_n 3 3 rfl dW_law_670 rfl ?_
  refine r_iconst dW_law_671 ?_
  refine r_iadd dW_law_672 ?_
  refine r_sload h.1 dW_law_673 ?_
  replace h := h.2
  refine r_aload_n 0 0 rfl dW_law_674 rfl ?_
  refine r_iload_n 3 3 rfl dW_law_675 rfl ?_
  refine r_iconst dW_law_676 ?_
  refine r_iadd dW_law_677 ?_
  refine r_sload h.1 dW_law_678 ?_
  replace h := h.2
  refine r_callVl 0 [_, _, _] rfl c1 rfl rfl oZ_failed iZ_failed sZ_failed yW_83 (by decide) ⟨Nat.le_refl _, Nat.le_refl _⟩ rfl (Nat.le_of_ble_eq_true rfl) dW_law_679 h (fun z1 r1 m1 h => ?_)
  obtain ⟨sw1, rfl, h⟩ := h
  refine r_aload_n 2 2 rfl dW_law_682 rfl ?_
  refine r_aload_n 0 0 rfl dW_law_683 rfl ?_
  refine r_iload_n 3 3 rfl dW_law_684 rfl ?_
  refine r_iconst dW_law_685 ?_
  refine r_iadd dW_law_686 ?_
  refine r_sload h.1 dW_law_687 ?_
  replace h := h.2
  refine r_aload_n 0 0 rfl dW_law_688 rfl ?_
  refine r_iload_n 3 3 rfl dW_law_689 rfl ?_
  refine r_iconst dW_law_690 ?_
  refine r_iadd dW_law_691 ?_
  refine r_sload h.1 dW_law_692 ?_
  replace h := h.2
  refine r_aload_n 0 0 rfl dW_law_693 rfl ?_
  refine r_iload_n 3 3 rfl dW_law_694 rfl ?_
  refine r_iconst dW_law_695 ?_
  refine r_iadd dW_law_696 ?_
  refine r_sload h.1 dW_law_697 ?_
  replace h := h.2
  refine r_callVl 12 [_, _, _] rfl c84 rfl rfl oY_failed iY_failed sY_failed yW_87 (by decide) ⟨Nat.le_refl _, Nat.le_refl _⟩ rfl (Nat.le_of_ble_eq_true rfl) dW_law_698 h (fun z2 r2 m2 h => ?_)
  obtain ⟨sw2, rfl, h⟩ := h
  refine q_lc_eq (tgt := 1430) (A := w64 z1) (B := w64 z2) rfl rfl dW_law_701 dW_law_702 (by decide) (fun hc => ?_) (fun hc => ?_)
  · replace h := h.1 hc
    refine r_sub [0, 1, 2, 3] ?_ h
    rfl
  · replace h := h.2 hc
    refine r_iconst dW_law_705 ?_
    exact q_bret3 rfl (Or.inl rfl) h dW_law_706
set_option maxRecDepth 4000 in
theorem wW_law_707 {X : Cx} (x3 : Int) (sw : Bool) (m : Mem) (Q : Int → Bool → Mem → Prop) (h : ((0 ≤ w32 (x3 + 1) ∧ w32 (x3 + 1) < (xN X : Int)) ∧ M2 X 7 mZ_look [vr 1, vi (xS X (w32 (x3 + 1)).toNat)] sw m (fun z1 sw1 m1 => ((0 ≤ w32 (x3 + 1) ∧ w32 (x3 + 1) < (xN X : Int)) ∧ M2 X 7 mY_look [vr 84, vi (xS X (w32 (x3 + 1)).toNat)] sw1 m1 (fun z2 sw2 m2 => ((w32 z1 = w32 z2 → R3 X 84 mW_law 1430 [(0, vr 1007), (1, vr 1), (2, vr 84), (3, vi x3)] [] sw2 m2 Q) ∧ (¬ (w32 z1 = w32 z2) → Q 0 sw2 m2))))))) : R3 X 84 mW_law 707 [(0, vr 1007), (1, vr 1), (2, vr 84), (3, vi x3)] [] sw m Q := by
  refine r_aload_n 1 1 rfl dW_law_707 rfl ?_
  refine r_aload_n 0 0 rfl dW_law_708 rfl ?_
  refine r_iload_n 3 3 rfl dW_law_709 rfl ?_
  refine r_iconst dW_law_710 ?_
  refine r_iadd dW_law_711 ?_
  refine r_sload h.1 dW_law_712 ?_
  replace h := h.2
  refine r_callVi 0 [_] rfl c1 rfl rfl oZ_look iZ_look sZ_look yW_88 (by decide) ⟨Nat.le_refl _, Nat.le_refl _⟩ rfl (Nat.le_of_ble_eq_true rfl) dW_law_713 h (fun z1 r1 m1 h => ?_)
  obtain ⟨sw1, rfl, h⟩ := h
  refine r_aload_n 2 2 rfl dW_law_716 rfl ?_
  refine r_aload_n 0 0 rfl dW_law_717 rfl ?_
  refine r_iload_n 3 3 rfl dW_law_718 rfl ?_
  refine r_iconst dW_law_719 ?_
  refine r_iadd dW_law_720 ?_
  refine r_sload h.1 dW_law_721 ?_
  replace h := h.2
  refine r_callVi 12 [_] rfl c84 rfl rfl oY_look iY_look sY_look yW_91 (by decide) ⟨Nat.le_refl _, Nat.le_refl _⟩ rfl (Nat.le_of_ble_eq_true rfl) dW_law_722 h (fun z2 r2 m2 h => ?_)
  obtain ⟨sw2, rfl, h⟩ := h
  refine r_ifc_eq (tgt := 1430) dW_law_725 (by decide) (fun hc => ?_) (fun hc => ?_)
  · replace h := h.1 hc
    refine r_sub [0, 1, 2, 3] ?_ h
    rfl
  · replace h := h.2 hc
    refine r_iconst dW_law_728 ?_
    exact q_bret3 rfl (Or.inl rfl) h dW_law_729
set_option maxRecDepth 4000 in
theorem wW_law_730 {X : Cx} (x3 : Int) (sw : Bool) (m : Mem) (Q : Int → Bool → Mem → Prop) (h : ((0 ≤ w32 (x3 + 1) ∧ w32 (x3 + 1) < (xN X : Int)) ∧ M2 X 7 mZ_test [vr 1, vi (xS X (w32 (x3 + 1)).toNat)] sw m (fun z1 sw1 m1 => ((0 ≤ w32 (x3 + 1) ∧ w32 (x3 + 1) < (xN X : Int)) ∧ M2 X 7 mY_test [vr 84, vi (xS X (w32 (x3 + 1)).toNat)] sw1 m1 (fun z2 sw2 m2 => ((w32 z1 = w32 z2 → R3 X 84 mW_law 1430 [(0, vr 1007), (1, vr 1), (2, vr 84), (3, vi x3)] [] sw2 m2 Q) ∧ (¬ (w32 z1 = w32 z2) → Q 0 sw2 m2))))))) : R3 X 84 mW_law 730 [(0, vr 1007), (1, vr 1), (2, vr 84), (3, vi x3)] [] sw m Q := by
  refine r_aload_n 1 1 rfl dW_law_730 rfl ?_
  refine r_aload_n 0 0 rfl dW_law_731 rfl ?_
  refine r_iload_n 3 3 rfl dW_law_732 rfl ?_
  refine r_iconst dW_law_733 ?_
  refine r_iadd dW_law_734 ?_
  refine r_sload h.1 dW_law_735 ?_
  replace h := h.2
  refine r_callVi 0 [_] rfl c1 rfl rfl oZ_test iZ_test sZ_test yW_92 (by decide) ⟨Nat.le_refl _, Nat.le_refl _⟩ rfl (Nat.le_of_ble_eq_true rfl) dW_law_736 h (fun z1 r1 m1 h => ?_)
  obtain ⟨sw1, rfl, h⟩ := h
  refine r_aload_n 2 2 rfl dW_law_739 rfl ?_
  refine r_aload_n 0 0 rfl dW_law_740 rfl ?_
  refine r_iload_n 3 3 rfl dW_law_741 rfl ?_
  refine r_iconst dW_law_742 ?_
  refine r_iadd dW_law_743 ?_
  refine r_sload h.1 dW_law_744 ?_
  replace h := h.2
  refine r_callVi 12 [_] rfl c84 rfl rfl oY_test iY_test sY_test yW_95 (by decide) ⟨Nat.le_refl _, Nat.le_refl _⟩ rfl (Nat.le_of_ble_eq_true rfl) dW_law_745 h (fun z2 r2 m2 h => ?_)
  obtain ⟨sw2, rfl, h⟩ := h
  refine r_ifc_eq (tgt := 1430) dW_law_748 (by decide) (fun hc => ?_) (fun hc => ?_)
  · replace h := h.1 hc
    refine r_sub [0, 1, 2, 3] ?_ h
    rfl
  · replace h := h.2 hc
    refine r_iconst dW_law_751 ?_
    exact q_bret3 rfl (Or.inl rfl) h dW_law_752
set_option maxRecDepth 4000 in
theorem wW_law_753 {X : Cx} (x3 : Int) (sw : Bool) (m : Mem) (Q : Int → Bool → Mem → Prop) (h : ((0 ≤ w32 (x3 + 1) ∧ w32 (x3 + 1) < (xN X : Int)) ∧ ((0 ≤ w32 (x3 + 2) ∧ w32 (x3 + 2) < (xN X : Int)) ∧ M2 X 7 mZ_mending [vr 1, vi (xS X (w32 (x3 + 1)).toNat), vi (xS X (w32 (x3 + 2)).toNat)] sw m (fun z1 sw1 m1 => ((0 ≤ w32 (x3 + 1) ∧ w32 (x3 + 1) < (xN X : Int)) ∧ ((0 ≤ w32 (x3 + 2) ∧ w32 (x3 + 2) < (xN X : Int)) ∧ M2 X 21 mY_mending [vr 84, vi (xS X (w32 (x3 + 1)).toNat), vi (xS X (w32 (x3 + 2)).toNat)] sw1 m1 (fun z2 sw2 m2 => ((w32 z1 = w32 z2 → R3 X 84 mW_law 1430 [(0, vr 1007), (1, vr 1), (2, vr 84), (3, vi x3)] [] sw2 m2 Q) ∧ (¬ (w32 z1 = w32 z2) → Q 0 sw2 m2))))))))) : R3 X 84 mW_law 753 [(0, vr 1007), (1, vr 1), (2, vr 84), (3, vi x3)] [] sw m Q := by
  refine r_aload_n 1 1 rfl dW_law_753 rfl ?_
  refine r_aload_n 0 0 rfl dW_law_754 rfl ?_
  refine r_iload_n 3 3 rfl dW_law_755 rfl ?_
  refine r_iconst dW_law_756 ?_
  refine r_iadd dW_law_757 ?_
  refine r_sload h.1 dW_law_758 ?_
  replace h := h.2
  refine r_aload_n 0 0 rfl dW_law_759 rfl ?_
  refine r_iload_n 3 3 rfl dW_law_760 rfl ?_
  refine r_iconst dW_law_761 ?_
  refine r_iadd dW_law_762 ?_
  refine r_sload h.1 dW_law_763 ?_
  replace h := h.2
  refine r_callVi 0 [_, _] rfl c1 rfl rfl oZ_mending iZ_mending sZ_mending yW_96 (by decide) ⟨Nat.le_refl _, Nat.le_refl _⟩ rfl (Nat.le_of_ble_eq_true rfl) dW_law_764 h (fun z1 r1 m1 h => ?_)
  obtain ⟨sw1, rfl, h⟩ := h
  refine r_aload_n 2 2 rfl dW_law_767 rfl ?_
  refine r_aload_n 0 0 rfl dW_law_768 rfl ?_
  refine r_iload_n 3 3 rfl dW_law_769 rfl ?_
  refine r_iconst dW_law_770 ?_
  refine r_iadd dW_law_771 ?_
  refine r_sload h.1 dW_law_772 ?_
  replace h := h.2
  refine r_aload_n 0 0 rfl dW_law_773 rfl ?_
  refine r_iload_n 3 3 rfl dW_law_774 rfl ?_
  refine r_iconst dW_law_775 ?_
  refine r_iadd dW_law_776 ?_
  refine r_sload h.1 dW_law_777 ?_
  replace h := h.2
  refine r_callVi 12 [_, _] rfl c84 rfl rfl oY_mending iY_mending sY_mending yW_99 (by decide) ⟨Nat.le_refl _, Nat.le_refl _⟩ rfl (Nat.le_of_ble_eq_true rfl) dW_law_778 h (fun z2 r2 m2 h => ?_)
  obtain ⟨sw2, rfl, h⟩ := h
  refine r_ifc_eq (tgt := 1430) dW_law_781 (by decide) (fun hc => ?_) (fun hc => ?_)
  · replace h := h.1 hc
    refine r_sub [0, 1, 2, 3] ?_ h
    rfl
  · replace h := h.2 hc
    refine r_iconst dW_law_784 ?_
    exact q_bret3 rfl (Or.inl rfl) h dW_law_785
set_option maxRecDepth 4000 in
theorem wW_law_786 {X : Cx} (x3 : Int) (sw : Bool) (m : Mem) (Q : Int → Bool → Mem → Prop) (h : ((0 ≤ w32 (x3 + 1) ∧ w32 (x3 + 1) < (xN X : Int)) ∧ M2 X 7 mZ_judge [vr 1, vi (xS X (w32 (x3 + 1)).toNat)] sw m (fun z1 sw1 m1 => ((0 ≤ w32 (x3 + 1) ∧ w32 (x3 + 1) < (xN X : Int)) ∧ M2 X 6 mY_judge [vr 84, vi (xS X (w32 (x3 + 1)).toNat)] sw1 m1 (fun z2 sw2 m2 => ((w32 z1 = w32 z2 → R3 X 84 mW_law 1430 [(0, vr 1007), (1, vr 1), (2, vr 84), (3, vi x3)] [] sw2 m2 Q) ∧ (¬ (w32 z1 = w32 z2) → Q 0 sw2 m2))))))) : R3 X 84 mW_law 786 [(0, vr 1007), (1, vr 1), (2, vr 84), (3, vi x3)] [] sw m Q := by
  refine r_aload_n 1 1 rfl dW_law_786 rfl ?_
  refine r_aload_n 0 0 rfl dW_law_787 rfl ?_
  refine r_iload_n 3 3 rfl dW_law_788 rfl ?_
  refine r_iconst dW_law_789 ?_
  refine r_iadd dW_law_790 ?_
  refine r_sload h.1 dW_law_791 ?_
  replace h := h.2
  refine r_callVi 0 [_] rfl c1 rfl rfl oZ_judge iZ_judge sZ_judge yW_100 (by decide) ⟨Nat.le_refl _, Nat.le_refl _⟩ rfl (Nat.le_of_ble_eq_true rfl) dW_law_792 h (fun z1 r1 m1 h => ?_)
  obtain ⟨sw1, rfl, h⟩ := h
  refine r_aload_n 2 2 rfl dW_law_795 rfl ?_
  refine r_aload_n 0 0 rfl dW_law_796 rfl ?_
  refine r_iload_n 3 3 rfl dW_law_797 rfl ?_
  refine r_iconst dW_law_798 ?_
  refine r_iadd dW_law_799 ?_
  refine r_sload h.1 dW_law_800 ?_
  replace h := h.2
  refine r_callVi 12 [_] rfl c84 rfl rfl oY_judge iY_judge sY_judge yW_103 (by decide) ⟨Nat.le_refl _, Nat.le_refl _⟩ rfl (Nat.le_of_ble_eq_true rfl) dW_law_801 h (fun z2 r2 m2 h => ?_)
  obtain ⟨sw2, rfl, h⟩ := h
  refine r_ifc_eq (tgt := 1430) dW_law_804 (by decide) (fun hc => ?_) (fun hc => ?_)
  · replace h := h.1 hc
    refine r_sub [0, 1, 2, 3] ?_ h
    rfl
  · replace h := h.2 hc
    refine r_iconst dW_law_807 ?_
    exact q_bret3 rfl (Or.inl rfl) h dW_law_808
set_option maxRecDepth 4000 in
theorem wW_law_809 {X : Cx} (x3 : Int) (sw : Bool) (m : Mem) (Q : Int → Bool → Mem → Prop) (h : ((0 ≤ w32 (x3 + 1) ∧ w32 (x3 + 1) < (xN X : Int)) ∧ ((0 ≤ w32 (x3 + 2) ∧ w32 (x3 + 2) < (xN X : Int)) ∧ M2 X 7 mZ_how [vr 1, vi (xS X (w32 (x3 + 1)).toNat), vi (xS X (w32 (x3 + 2)).toNat)] sw m (fun z1 sw1 m1 => ((0 ≤ w32 (x3 + 1) ∧ w32 (x3 + 1) < (xN X : Int)) ∧ ((0 ≤ w32 (x3 + 2) ∧ w32 (x3 + 2) < (xN X : Int)) ∧ M2 X 6 mY_how [vr 84, vi (xS X (w32 (x3 + 1)).toNat), vi (xS X (w32 (x3 + 2)).toNat)] sw1 m1 (fun z2 sw2 m2 => ((w32 z1 = w32 z2 → R3 X 84 mW_law 1430 [(0, vr 1007), (1, vr 1), (2, vr 84), (3, vi x3)] [] sw2 m2 Q) ∧ (¬ (w32 z1 = w32 z2) → Q 0 sw2 m2))))))))) : R3 X 84 mW_law 809 [(0, vr 1007), (1, vr 1), (2, vr 84), (3, vi x3)] [] sw m Q := by
  refine r_aload_n 1 1 rfl dW_law_809 rfl ?_
  refine r_aload_n 0 0 rfl dW_law_810 rfl ?_
  refine r_iload_n 3 3 rfl dW_law_811 rfl ?_
  refine r_iconst dW_law_812 ?_
  refine r_iadd dW_law_813 ?_
  refine r_sload h.1 dW_law_814 ?_
  replace h := h.2
  refine r_aload_n 0 0 rfl dW_law_815 rfl ?_
  refine r_iload_n 3 3 rfl dW_law_816 rfl ?_
  refine r_iconst dW_law_817 ?_
  refine r_iadd dW_law_818 ?_
  refine r_sload h.1 dW_law_819 ?_
  replace h := h.2
  refine r_callVi 0 [_, _] rfl c1 rfl rfl oZ_how iZ_how sZ_how yW_104 (by decide) ⟨Nat.le_refl _, Nat.le_refl _⟩ rfl (Nat.le_of_ble_eq_true rfl) dW_law_820 h (fun z1 r1 m1 h => ?_)
  obtain ⟨sw1, rfl, h⟩ := h
  refine r_aload_n 2 2 rfl dW_law_823 rfl ?_
  refine r_aload_n 0 0 rfl dW_law_824 rfl ?_
  refine r_iload_n 3 3 rfl dW_law_825 rfl ?_
  refine r_iconst dW_law_826 ?_
  refine r_iadd dW_law_827 ?_
  refine r_sload h.1 dW_law_828 ?_
  replace h := h.2
  refine r_aload_n 0 0 rfl dW_law_829 rfl ?_
  refine r_iload_n 3 3 rfl dW_law_830 rfl ?_
  refine r_iconst dW_law_831 ?_
  refine r_iadd dW_law_832 ?_
  refine r_sload h.1 dW_law_833 ?_
  replace h := h.2
  refine r_callVi 12 [_, _] rfl c84 rfl rfl oY_how iY_how sY_how yW_107 (by decide) ⟨Nat.le_refl _, Nat.le_refl _⟩ rfl (Nat.le_of_ble_eq_true rfl) dW_law_834 h (fun z2 r2 m2 h => ?_)
  obtain ⟨sw2, rfl, h⟩ := h
  refine r_ifc_eq (tgt := 1430) dW_law_837 (by decide) (fun hc => ?_) (fun hc => ?_)
  · replace h := h.1 hc
    refine r_sub [0, 1, 2, 3] ?_ h
    rfl
  · replace h := h.2 hc
    refine r_iconst dW_law_840 ?_
    exact q_bret3 rfl (Or.inl rfl) h dW_law_841
set_option maxRecDepth 4000 in
theorem wW_law_842 {X : Cx} (x3 : Int) (sw : Bool) (m : Mem) (Q : Int → Bool → Mem → Prop) (h : ((0 ≤ w32 (x3 + 1) ∧ w32 (x3 + 1) < (xN X : Int)) ∧ ((0 ≤ w32 (x3 + 2) ∧ w32 (x3 + 2) < (xN X : Int)) ∧ M2 X 7 mZ_whose [vr 1, vi (xS X (w32 (x3 + 1)).toNat), vi (xS X (w32 (x3 + 2)).toNat)] sw m (fun z1 sw1 m1 => ((0 ≤ w32 (x3 + 1) ∧ w32 (x3 + 1) < (xN X : Int)) ∧ ((0 ≤ w32 (x3 + 2) ∧ w32 (x3 + 2) < (xN X : Int)) ∧ M2 X 6 mY_whose [vr 84, vi (xS X (w32 (x3 + 1)).toNat), vi (xS X (w32 (x3 + 2)).toNat)] sw1 m1 (fun z2 sw2 m2 => ((w32 z1 = w32 z2 → R3 X 84 mW_law 1430 [(0, vr 1007), (1, vr 1), (2, vr 84), (3, vi x3)] [] sw2 m2 Q) ∧ (¬ (w32 z1 = w32 z2) → Q 0 sw2 m2))))))))) : R3 X 84 mW_law 842 [(0, vr 1007), (1, vr 1), (2, vr 84), (3, vi x3)] [] sw m Q := by
  refine r_aload_n 1 1 rfl dW_law_842 rfl ?_
  refine r_aload_n 0 0 rfl dW_law_843 rfl ?_
  refine r_iload_n 3 3 rfl dW_law_844 rfl ?_
  refine r_iconst dW_law_845 ?_
  refine r_iadd dW_law_846 ?_
  refine r_sload h.1 dW_law_847 ?_
  replace h := h.2
  refine r_aload_n 0 0 rfl dW_law_848 rfl ?_
  refine r_iload_n 3 3 rfl dW_law_849 rfl ?_
  refine r_iconst dW_law_850 ?_
  refine r_iadd dW_law_851 ?_
  refine r_sload h.1 dW_law_852 ?_
  replace h := h.2
  refine r_callVi 0 [_, _] rfl c1 rfl rfl oZ_whose iZ_whose sZ_whose yW_108 (by decide) ⟨Nat.le_refl _, Nat.le_refl _⟩ rfl (Nat.le_of_ble_eq_true rfl) dW_law_853 h (fun z1 r1 m1 h => ?_)
  obtain ⟨sw1, rfl, h⟩ := h
  refine r_aload_n 2 2 rfl dW_law_856 rfl ?_
  refine r_aload_n 0 0 rfl dW_law_857 rfl ?_
  refine r_iload_n 3 3 rfl dW_law_858 rfl ?_
  refine r_iconst dW_law_859 ?_
  refine r_iadd dW_law_860 ?_
  refine r_sload h.1 dW_law_861 ?_
  replace h := h.2
  refine r_aload_n 0 0 rfl dW_law_862 rfl ?_
  refine r_iload_n 3 3 rfl dW_law_863 rfl ?_
  refine r_iconst dW_law_864 ?_
  refine r_iadd dW_law_865 ?_
  refine r_sload h.1 dW_law_866 ?_
  replace h := h.2
  refine r_callVi 12 [_, _] rfl c84 rfl rfl oY_whose iY_whose sY_whose yW_111 (by decide) ⟨Nat.le_refl _, Nat.le_refl _⟩ rfl (Nat.le_of_ble_eq_true rfl) dW_law_867 h (fun z2 r2 m2 h => ?_)
  obtain ⟨sw2, rfl, h⟩ := h
  refine r_ifc_eq (tgt := 1430) dW_law_870 (by decide) (fun hc => ?_) (fun hc => ?_)
  · replace h := h.1 hc
    refine r_sub [0, 1, 2, 3] ?_ h
    rfl
  · replace h := h.2 hc
    refine r_iconst dW_law_873 ?_
    exact q_bret3 rfl (Or.inl rfl) h dW_law_874
set_option maxRecDepth 4000 in
theorem wW_law_875 {X : Cx} (x3 : Int) (sw : Bool) (m : Mem) (Q : Int → Bool → Mem → Prop) (h : ((0 ≤ w32 (x3 + 1) ∧ w32 (x3 + 1) < (xN X : Int)) ∧ ((0 ≤ w32 (x3 + 2) ∧ w32 (x3 + 2) < (xN X : Int)) ∧ ((0 ≤ w32 (x3 + 3) ∧ w32 (x3 + 3) < (xN X : Int)) ∧ M2 X 7 mZ_drawn [vr 1, vi (xS X (w32 (x3 + 1)).toNat), vi (xS X (w32 (x3 + 2)).toNat), vi (xS X (w32 (x3 + 3)).toNat)] sw m (fun z1 sw1 m1 => ((0 ≤ w32 (x3 + 1) ∧ w32 (x3 + 1) < (xN X : Int)) ∧ ((0 ≤ w32 (x3 + 2) ∧ w32 (x3 + 2) < (xN X : Int)) ∧ ((0 ≤ w32 (x3 + 3) ∧ w32 (x3 + 3) < (xN X : Int)) ∧ M2 X 6 mY_drawn [vr 84, vi (xS X (w32 (x3 + 1)).toNat), vi (xS X (w32 (x3 + 2)).toNat), vi (xS X (w32 (x3 + 3)).toNat)] sw1 m1 (fun z2 sw2 m2 => ((w32 z1 = w32 z2 → R3 X 84 mW_law 1430 [(0, vr 1007), (1, vr 1), (2, vr 84), (3, vi x3)] [] sw2 m2 Q) ∧ (¬ (w32 z1 = w32 z2) → Q 0 sw2 m2))))))))))) : R3 X 84 mW_law 875 [(0, vr 1007), (1, vr 1), (2, vr 84), (3, vi x3)] [] sw m Q := by
  refine r_aload_n 1 1 rfl dW_law_875 rfl ?_
  refine r_aload_n 0 0 rfl dW_law_876 rfl ?_
  refine r_iload_n 3 3 rfl dW_law_877 rfl ?_
  refine r_iconst dW_law_878 ?_
  refine r_iadd dW_law_879 ?_
  refine r_sload h.1 dW_law_880 ?_
  replace h := h.2
  refine r_aload_n 0 0 rfl dW_law_881 rfl ?_
  refine r_iload_n 3 3 rfl dW_law_882 rfl ?_
  refine r_iconst dW_law_883 ?_
  refine r_iadd dW_law_884 ?_
  refine r_sload h.1 dW_law_885 ?_
  replace h := h.2
  refine r_aload_n 0 0 rfl dW_law_886 rfl ?_
  refine r_iload_n 3 3 rfl dW_law_887 rfl ?_
  refine r_iconst dW_law_888 ?_
  refine r_iadd dW_law_889 ?_
  refine r_sload h.1 dW_law_890 ?_
  replace h := h.2
  refine r_callVi 0 [_, _, _] rfl c1 rfl rfl oZ_drawn iZ_drawn sZ_drawn yW_112 (by decide) ⟨Nat.le_refl _, Nat.le_refl _⟩ rfl (Nat.le_of_ble_eq_true rfl) dW_law_891 h (fun z1 r1 m1 h => ?_)
  obtain ⟨sw1, rfl, h⟩ := h
  refine r_aload_n 2 2 rfl dW_law_894 rfl ?_
  refine r_aload_n 0 0 rfl dW_law_895 rfl ?_
  refine r_iload_n 3 3 rfl dW_law_896 rfl ?_
  refine r_iconst dW_law_897 ?_
  refine r_iadd dW_law_898 ?_
  refine r_sload h.1 dW_law_899 ?_
  replace h := h.2
  refine r_aload_n 0 0 rfl dW_law_900 rfl ?_
  refine r_iload_n 3 3 rfl dW_law_901 rfl ?_
  refine r_iconst dW_law_902 ?_
  refine r_iadd dW_law_903 ?_
  refine r_sload h.1 dW_law_904 ?_
  replace h := h.2
  refine r_aload_n 0 0 rfl dW_law_905 rfl ?_
  refine r_iload_n 3 3 rfl dW_law_906 rfl ?_
  refine r_iconst dW_law_907 ?_
  refine r_iadd dW_law_908 ?_
  refine r_sload h.1 dW_law_909 ?_
  replace h := h.2
  refine r_callVi 12 [_, _, _] rfl c84 rfl rfl oY_drawn iY_drawn sY_drawn yW_115 (by decide) ⟨Nat.le_refl _, Nat.le_refl _⟩ rfl (Nat.le_of_ble_eq_true rfl) dW_law_910 h (fun z2 r2 m2 h => ?_)
  obtain ⟨sw2, rfl, h⟩ := h
  refine r_ifc_eq (tgt := 1430) dW_law_913 (by decide) (fun hc => ?_) (fun hc => ?_)
  · replace h := h.1 hc
    refine r_sub [0, 1, 2, 3] ?_ h
    rfl
  · replace h := h.2 hc
    refine r_iconst dW_law_916 ?_
    exact q_bret3 rfl (Or.inl rfl) h dW_law_917
set_option maxRecDepth 4000 in
theorem wW_law_918 {X : Cx} (x3 : Int) (sw : Bool) (m : Mem) (Q : Int → Bool → Mem → Prop) (h : ((0 ≤ w32 (x3 + 1) ∧ w32 (x3 + 1) < (xN X : Int)) ∧ M2 X 7 mZ_morning [vr 1, vi (xS X (w32 (x3 + 1)).toNat)] sw m (fun z1 sw1 m1 => ((0 ≤ w32 (x3 + 1) ∧ w32 (x3 + 1) < (xN X : Int)) ∧ M2 X 3 mY_morning [vr 84, vi (xS X (w32 (x3 + 1)).toNat)] sw1 m1 (fun z2 sw2 m2 => ((w32 z1 = w32 z2 → R3 X 84 mW_law 1430 [(0, vr 1007), (1, vr 1), (2, vr 84), (3, vi x3)] [] sw2 m2 Q) ∧ (¬ (w32 z1 = w32 z2) → Q 0 sw2 m2))))))) : R3 X 84 mW_law 918 [(0, vr 1007), (1, vr 1), (2, vr 84), (3, vi x3)] [] sw m Q := by
  refine r_aload_n 1 1 rfl dW_law_918 rfl ?_
  refine r_aload_n 0 0 rfl dW_law_919 rfl ?_
  refine r_iload_n 3 3 rfl dW_law_920 rfl ?_
  refine r_iconst dW_law_921 ?_
  refine r_iadd dW_law_922 ?_
  refine r_sload h.1 dW_law_923 ?_
  replace h := h.2
  refine r_callVi 0 [_] rfl c1 rfl rfl oZ_morning iZ_morning sZ_morning yW_116 (by decide) ⟨Nat.le_refl _, Nat.le_refl _⟩ rfl (Nat.le_of_ble_eq_true rfl) dW_law_924 h (fun z1 r1 m1 h => ?_)
  obtain ⟨sw1, rfl, h⟩ := h
  refine r_aload_n 2 2 rfl dW_law_927 rfl ?_
  refine r_aload_n 0 0 rfl dW_law_928 rfl ?_
  refine r_iload_n 3 3 rfl dW_law_929 rfl ?_
  refine r_iconst dW_law_930 ?_
  refine r_iadd dW_law_931 ?_
  refine r_sload h.1 dW_law_932 ?_
  replace h := h.2
  refine r_callVi 12 [_] rfl c84 rfl rfl oY_morning iY_morning sY_morning yW_119 (by decide) ⟨Nat.le_refl _, Nat.le_refl _⟩ rfl (Nat.le_of_ble_eq_true rfl) dW_law_933 h (fun z2 r2 m2 h => ?_)
  obtain ⟨sw2, rfl, h⟩ := h
  refine r_ifc_eq (tgt := 1430) dW_law_936 (by decide) (fun hc => ?_) (fun hc => ?_)
  · replace h := h.1 hc
    refine r_sub [0, 1, 2, 3] ?_ h
    rfl
  · replace h := h.2 hc
    refine r_iconst dW_law_939 ?_
    exact q_bret3 rfl (Or.inl rfl) h dW_law_940
set_option maxRecDepth 4000 in
theorem wW_law_941 {X : Cx} (x3 : Int) (sw : Bool) (m : Mem) (Q : Int → Bool → Mem → Prop) (h : ((0 ≤ w32 (x3 + 1) ∧ w32 (x3 + 1) < (xN X : Int)) ∧ M2 X 4 mZ_mended [vr 1, vi (xS X (w32 (x3 + 1)).toNat)] sw m (fun z1 sw1 m1 => ((0 ≤ w32 (x3 + 1) ∧ w32 (x3 + 1) < (xN X : Int)) ∧ M2 X 3 mY_mended [vr 84, vi (xS X (w32 (x3 + 1)).toNat)] sw1 m1 (fun z2 sw2 m2 => ((w32 z1 = w32 z2 → R3 X 84 mW_law 1430 [(0, vr 1007), (1, vr 1), (2, vr 84), (3, vi x3)] [] sw2 m2 Q) ∧ (¬ (w32 z1 = w32 z2) → Q 0 sw2 m2))))))) : R3 X 84 mW_law 941 [(0, vr 1007), (1, vr 1), (2, vr 84), (3, vi x3)] [] sw m Q := by
  refine r_aload_n 1 1 rfl dW_law_941 rfl ?_
  refine r_aload_n 0 0 rfl dW_law_942 rfl ?_
  refine r_iload_n 3 3 rfl dW_law_943 rfl ?_
  refine r_iconst dW_law_944 ?_
  refine r_iadd dW_law_945 ?_
  refine r_sload h.1 dW_law_946 ?_
  replace h := h.2
  refine r_callVi 0 [_] rfl c1 rfl rfl oZ_mended iZ_mended sZ_mended yW_120 (by decide) ⟨Nat.le_refl _, Nat.le_refl _⟩ rfl (Nat.le_of_ble_eq_true rfl) dW_law_947 h (fun z1 r1 m1 h => ?_)
  obtain ⟨sw1, rfl, h⟩ := h
  refine r_aload_n 2 2 rfl dW_law_950 rfl ?_
  refine r_aload_n 0 0 rfl dW_law_951 rfl ?_
  refine r_iload_n 3 3 rfl dW_law_952 rfl ?_
  refine r_iconst dW_law_953 ?_
  refine r_iadd dW_law_954 ?_
  refine r_sload h.1 dW_law_955 ?_
  replace h := h.2
  refine r_callVi 12 [_] rfl c84 rfl rfl oY_mended iY_mended sY_mended yW_123 (by decide) ⟨Nat.le_refl _, Nat.le_refl _⟩ rfl (Nat.le_of_ble_eq_true rfl) dW_law_956 h (fun z2 r2 m2 h => ?_)
  obtain ⟨sw2, rfl, h⟩ := h
  refine r_ifc_eq (tgt := 1430) dW_law_959 (by decide) (fun hc => ?_) (fun hc => ?_)
  · replace h := h.1 hc
    refine r_sub [0, 1, 2, 3] ?_ h
    rfl
  · replace h := h.2 hc
    refine r_iconst dW_law_962 ?_
    exact q_bret3 rfl (Or.inl rfl) h dW_law_963
set_option maxRecDepth 4000 in
theorem wW_law_964 {X : Cx} (x3 : Int) (sw : Bool) (m : Mem) (Q : Int → Bool → Mem → Prop) (h : ((0 ≤ w32 (x3 + 1) ∧ w32 (x3 + 1) < (xN X : Int)) ∧ M2 X 2 mZ_led [vr 1, vi (xS X (w32 (x3 + 1)).toNat)] sw m (fun z1 sw1 m1 => ((0 ≤ w32 (x3 + 1) ∧ w32 (x3 + 1) < (xN X : Int)) ∧ M2 X 2 mY_led [vr 84, vi (xS X (w32 (x3 + 1)).toNat)] sw1 m1 (fun z2 sw2 m2 => ((w32 z1 = w32 z2 → R3 X 84 mW_law 1430 [(0, vr 1007), (1, vr 1), (2, vr 84), (3, vi x3)] [] sw2 m2 Q) ∧ (¬ (w32 z1 = w32 z2) → Q 0 sw2 m2))))))) : R3 X 84 mW_law 964 [(0, vr 1007), (1, vr 1), (2, vr 84), (3, vi x3)] [] sw m Q := by
  refine r_aload_n 1 1 rfl dW_law_964 rfl ?_
  refine r_aload_n 0 0 rfl dW_law_965 rfl ?_
  refine r_iload_n 3 3 rfl dW_law_966 rfl ?_
  refine r_iconst dW_law_967 ?_
  refine r_iadd dW_law_968 ?_
  refine r_sload h.1 dW_law_969 ?_
  replace h := h.2
  refine r_callVi 0 [_] rfl c1 rfl rfl oZ_led iZ_led sZ_led yW_124 (by decide) ⟨Nat.le_refl _, Nat.le_refl _⟩ rfl (Nat.le_of_ble_eq_true rfl) dW_law_970 h (fun z1 r1 m1 h => ?_)
  obtain ⟨sw1, rfl, h⟩ := h
  refine r_aload_n 2 2 rfl dW_law_973 rfl ?_
  refine r_aload_n 0 0 rfl dW_law_974 rfl ?_
  refine r_iload_n 3 3 rfl dW_law_975 rfl ?_
  refine r_iconst dW_law_976 ?_
  refine r_iadd dW_law_977 ?_
  refine r_sload h.1 dW_law_978 ?_
  replace h := h.2
  refine r_callVi 12 [_] rfl c84 rfl rfl oY_led iY_led sY_led yW_127 (by decide) ⟨Nat.le_refl _, Nat.le_refl _⟩ rfl (Nat.le_of_ble_eq_true rfl) dW_law_979 h (fun z2 r2 m2 h => ?_)
  obtain ⟨sw2, rfl, h⟩ := h
  refine r_ifc_eq (tgt := 1430) dW_law_982 (by decide) (fun hc => ?_) (fun hc => ?_)
  · replace h := h.1 hc
    refine r_sub [0, 1, 2, 3] ?_ h
    rfl
  · replace h := h.2 hc
    refine r_iconst dW_law_985 ?_
    exact q_bret3 rfl (Or.inl rfl) h dW_law_986
set_option maxRecDepth 4000 in
theorem wW_law_987 {X : Cx} (x3 : Int) (sw : Bool) (m : Mem) (Q : Int → Bool → Mem → Prop) (h : M2 X 4 mZ_image [vr 1] sw m (fun z1 sw1 m1 => M2 X 1 mY_image [vr 84] sw1 m1 (fun z2 sw2 m2 => ((w32 z1 = w32 z2 → R3 X 84 mW_law 1430 [(0, vr 1007), (1, vr 1), (2, vr 84), (3, vi x3)] [] sw2 m2 Q) ∧ (¬ (w32 z1 = w32 z2) → Q 0 sw2 m2))))) : R3 X 84 mW_law 987 [(0, vr 1007), (1, vr 1), (2, vr 84), (3, vi x3)] [] sw m Q := by
  refine r_aload_n 1 1 rfl dW_law_987 rfl ?_
  refine r_callVi 0 [] rfl c1 rfl rfl oZ_image iZ_image sZ_image yW_128 (by decide) ⟨Nat.le_refl _, Nat.le_refl _⟩ rfl (Nat.le_of_ble_eq_true rfl) dW_law_988 h (fun z1 r1 m1 h => ?_)
  obtain ⟨sw1, rfl, h⟩ := h
  refine r_aload_n 2 2 rfl dW_law_991 rfl ?_
  refine r_callVi 12 [] rfl c84 rfl rfl oY_image iY_image sY_image yW_131 (by decide) ⟨Nat.le_refl _, Nat.le_refl _⟩ rfl (Nat.le_of_ble_eq_true rfl) dW_law_992 h (fun z2 r2 m2 h => ?_)
  obtain ⟨sw2, rfl, h⟩ := h
  refine r_ifc_eq (tgt := 1430) dW_law_995 (by decide) (fun hc => ?_) (fun hc => ?_)
  · replace h := h.1 hc
    refine r_sub [0, 1, 2, 3] ?_ h
    rfl
  · replace h := h.2 hc
    refine r_iconst dW_law_998 ?_
    exact q_bret3 rfl (Or.inl rfl) h dW_law_999
set_option maxRecDepth 4000 in
theorem wW_law_1000 {X : Cx} (x3 : Int) (sw : Bool) (m : Mem) (Q : Int → Bool → Mem → Prop) (h : M2 X 4 mZ_back [vr 1] sw m (fun z1 sw1 m1 => M2 X 1 mY_back [vr 84] sw1 m1 (fun z2 sw2 m2 => ((w32 z1 = w32 z2 → R3 X 84 mW_law 1430 [(0, vr 1007), (1, vr 1), (2, vr 84), (3, vi x3)] [] sw2 m2 Q) ∧ (¬ (w32 z1 = w32 z2) → Q 0 sw2 m2))))) : R3 X 84 mW_law 1000 [(0, vr 1007), (1, vr 1), (2, vr 84), (3, vi x3)] [] sw m Q := by
  refine r_aload_n 1 1 rfl dW_law_1000 rfl ?_
  refine r_callVi 0 [] rfl c1 rfl rfl oZ_back iZ_back sZ_back yW_132 (by decide) ⟨Nat.le_refl _, Nat.le_refl _⟩ rfl (Nat.le_of_ble_eq_true rfl) dW_law_1001 h (fun z1 r1 m1 h => ?_)
  obtain ⟨sw1, rfl, h⟩ := h
  refine r_aload_n 2 2 rfl dW_law_1004 rfl ?_
  refine r_callVi 12 [] rfl c84 rfl rfl oY_back iY_back sY_back yW_135 (by decide) ⟨Nat.le_refl _, Nat.le_refl _⟩ rfl (Nat.le_of_ble_eq_true rfl) dW_law_1005 h (fun z2 r2 m2 h => ?_)
  obtain ⟨sw2, rfl, h⟩ := h
  refine r_ifc_eq (tgt := 1430) dW_law_1008 (by decide) (fun hc => ?_) (fun hc => ?_)
  · replace h := h.1 hc
    refine r_sub [0, 1, 2, 3] ?_ h
    rfl
  · replace h := h.2 hc
    refine r_iconst dW_law_1011 ?_
    exact q_bret3 rfl (Or.inl rfl) h dW_law_1012
set_option maxRecDepth 4000 in
theorem wW_law_1013 {X : Cx} (x3 : Int) (sw : Bool) (m : Mem) (Q : Int → Bool → Mem → Prop) (h : M2 X 4 mZ_undo [vr 1] sw m (fun z1 sw1 m1 => M2 X 2 mY_undo [vr 84] sw1 m1 (fun z2 sw2 m2 => ((w32 z1 = w32 z2 → R3 X 84 mW_law 1430 [(0, vr 1007), (1, vr 1), (2, vr 84), (3, vi x3)] [] sw2 m2 Q) ∧ (¬ (w32 z1 = w32 z2) → Q 0 sw2 m2))))) : R3 X 84 mW_law 1013 [(0, vr 1007), (1, vr 1), (2, vr 84), (3, vi x3)] [] sw m Q := by
  refine r_aload_n 1 1 rfl dW_law_1013 rfl ?_
  refine r_callVi 0 [] rfl c1 rfl rfl oZ_undo iZ_undo sZ_undo yW_136 (by decide) ⟨Nat.le_refl _, Nat.le_refl _⟩ rfl (Nat.le_of_ble_eq_true rfl) dW_law_1014 h (fun z1 r1 m1 h => ?_)
  obtain ⟨sw1, rfl, h⟩ := h
  refine r_aload_n 2 2 rfl dW_law_1017 rfl ?_
  refine r_callVi 12 [] rfl c84 rfl rfl oY_undo iY_undo sY_undo yW_139 (by decide) ⟨Nat.le_refl _, Nat.le_refl _⟩ rfl (Nat.le_of_ble_eq_true rfl) dW_law_1018 h (fun z2 r2 m2 h => ?_)
  obtain ⟨sw2, rfl, h⟩ := h
  refine r_ifc_eq (tgt := 1430) dW_law_1021 (by decide) (fun hc => ?_) (fun hc => ?_)
  · replace h := h.1 hc
    refine r_sub [0, 1, 2, 3] ?_ h
    rfl
  · replace h := h.2 hc
    refine r_iconst dW_law_1024 ?_
    exact q_bret3 rfl (Or.inl rfl) h dW_law_1025
set_option maxRecDepth 4000 in
theorem wW_law_1026 {X : Cx} (x3 : Int) (sw : Bool) (m : Mem) (Q : Int → Bool → Mem → Prop) (h : M2 X 4 mZ_redo [vr 1] sw m (fun z1 sw1 m1 => M2 X 2 mY_redo [vr 84] sw1 m1 (fun z2 sw2 m2 => ((w32 z1 = w32 z2 → R3 X 84 mW_law 1430 [(0, vr 1007), (1, vr 1), (2, vr 84), (3, vi x3)] [] sw2 m2 Q) ∧ (¬ (w32 z1 = w32 z2) → Q 0 sw2 m2))))) : R3 X 84 mW_law 1026 [(0, vr 1007), (1, vr 1), (2, vr 84), (3, vi x3)] [] sw m Q := by
  refine r_aload_n 1 1 rfl dW_law_1026 rfl ?_
  refine r_callVi 0 [] rfl c1 rfl rfl oZ_redo iZ_redo sZ_redo yW_140 (by decide) ⟨Nat.le_refl _, Nat.le_refl _⟩ rfl (Nat.le_of_ble_eq_true rfl) dW_law_1027 h (fun z1 r1 m1 h => ?_)
  obtain ⟨sw1, rfl, h⟩ := h
  refine r_aload_n 2 2 rfl dW_law_1030 rfl ?_
  refine r_callVi 12 [] rfl c84 rfl rfl oY_redo iY_redo sY_redo yW_143 (by decide) ⟨Nat.le_refl _, Nat.le_refl _⟩ rfl (Nat.le_of_ble_eq_true rfl) dW_law_1031 h (fun z2 r2 m2 h => ?_)
  obtain ⟨sw2, rfl, h⟩ := h
  refine r_ifc_eq (tgt := 1430) dW_law_1034 (by decide) (fun hc => ?_) (fun hc => ?_)
  · replace h := h.1 hc
    refine r_sub [0, 1, 2, 3] ?_ h
    rfl
  · replace h := h.2 hc
    refine r_iconst dW_law_1037 ?_
    exact q_bret3 rfl (Or.inl rfl) h dW_law_1038
set_option maxRecDepth 4000 in
theorem wW_law_1039 {X : Cx} (x3 : Int) (sw : Bool) (m : Mem) (Q : Int → Bool → Mem → Prop) (h : ((0 ≤ w32 (x3 + 1) ∧ w32 (x3 + 1) < (xN X : Int)) ∧ M2 X 3 mZ_body [vr 1, vi (xS X (w32 (x3 + 1)).toNat)] sw m (fun z1 sw1 m1 => ((0 ≤ w32 (x3 + 1) ∧ w32 (x3 + 1) < (xN X : Int)) ∧ M2 X 2 mY_body [vr 84, vi (xS X (w32 (x3 + 1)).toNat)] sw1 m1 (fun z2 sw2 m2 => ((w32 z1 = w32 z2 → R3 X 84 mW_law 1430 [(0, vr 1007), (1, vr 1), (2, vr 84), (3, vi x3)] [] sw2 m2 Q) ∧ (¬ (w32 z1 = w32 z2) → Q 0 sw2 m2))))))) : R3 X 84 mW_law 1039 [(0, vr 1007), (1, vr 1), (2, vr 84), (3, vi x3)] [] sw m Q := by
  refine r_aload_n 1 1 rfl dW_law_1039 rfl ?_
  refine r_aload_n 0 0 rfl dW_law_1040 rfl ?_
  refine r_iload_n 3 3 rfl dW_law_1041 rfl ?_
  refine r_iconst dW_law_1042 ?_
  refine r_iadd dW_law_1043 ?_
  refine r_sload h.1 dW_law_1044 ?_
  replace h := h.2
  refine r_callVi 0 [_] rfl c1 rfl rfl oZ_body iZ_body sZ_body yW_144 (by decide) ⟨Nat.le_refl _, Nat.le_refl _⟩ rfl (Nat.le_of_ble_eq_true rfl) dW_law_1045 h (fun z1 r1 m1 h => ?_)
  obtain ⟨sw1, rfl, h⟩ := h
  refine r_aload_n 2 2 rfl dW_law_1048 rfl ?_
  refine r_aload_n 0 0 rfl dW_law_1049 rfl ?_
  refine r_iload_n 3 3 rfl dW_law_1050 rfl ?_
  refine r_iconst dW_law_1051 ?_
  refine r_iadd dW_law_1052 ?_
  refine r_sload h.1 dW_law_1053 ?_
  replace h := h.2
  refine r_callVi 12 [_] rfl c84 rfl rfl oY_body iY_body sY_body yW_147 (by decide) ⟨Nat.le_refl _, Nat.le_refl _⟩ rfl (Nat.le_of_ble_eq_true rfl) dW_law_1054 h (fun z2 r2 m2 h => ?_)
  obtain ⟨sw2, rfl, h⟩ := h
  refine r_ifc_eq (tgt := 1430) dW_law_1057 (by decide) (fun hc => ?_) (fun hc => ?_)
  · replace h := h.1 hc
    refine r_sub [0, 1, 2, 3] ?_ h
    rfl
  · replace h := h.2 hc
    refine r_iconst dW_law_1060 ?_
    exact q_bret3 rfl (Or.inl rfl) h dW_law_1061
set_option maxRecDepth 4000 in
theorem wW_law_1062 {X : Cx} (x3 : Int) (sw : Bool) (m : Mem) (Q : Int → Bool → Mem → Prop) (h : ((0 ≤ w32 (x3 + 1) ∧ w32 (x3 + 1) < (xN X : Int)) ∧ ((0 ≤ w32 (x3 + 2) ∧ w32 (x3 + 2) < (xN X : Int)) ∧ ((0 ≤ w32 (x3 + 3) ∧ w32 (x3 + 3) < (xN X : Int)) ∧ M2 X 62 mZ_act [vr 1, vi (xS X (w32 (x3 + 1)).toNat), vi (xS X (w32 (x3 + 2)).toNat), vi (xS X (w32 (x3 + 3)).toNat)] sw m (fun z1 sw1 m1 => ((0 ≤ w32 (x3 + 1) ∧ w32 (x3 + 1) < (xN X : Int)) ∧ ((0 ≤ w32 (x3 + 2) ∧ w32 (x3 + 2) < (xN X : Int)) ∧ ((0 ≤ w32 (x3 + 3) ∧ w32 (x3 + 3) < (xN X : Int)) ∧ M2 X 10 mY_act [vr 84, vi (xS X (w32 (x3 + 1)).toNat), vi (xS X (w32 (x3 + 2)).toNat), vi (xS X (w32 (x3 + 3)).toNat)] sw1 m1 (fun z2 sw2 m2 => ((w32 z1 = w32 z2 → R3 X 84 mW_law 1430 [(0, vr 1007), (1, vr 1), (2, vr 84), (3, vi x3)] [] sw2 m2 Q) ∧ (¬ (w32 z1 = w32 z2) → Q 0 sw2 m2))))))))))) : R3 X 84 mW_law 1062 [(0, vr 1007), (1, vr 1), (2, vr 84), (3, vi x3)] [] sw m Q := by
  refine r_aload_n 1 1 rfl dW_law_1062 rfl ?_
  refine r_aload_n 0 0 rfl dW_law_1063 rfl ?_
  refine r_iload_n 3 3 rfl dW_law_1064 rfl ?_
  refine r_iconst dW_law_1065 ?_
  refine r_iadd dW_law_1066 ?_
  refine r_sload h.1 dW_law_1067 ?_
  replace h := h.2
  refine r_aload_n 0 0 rfl dW_law_1068 rfl ?_
  refine r_iload_n 3 3 rfl dW_law_1069 rfl ?_
  refine r_iconst dW_law_1070 ?_
  refine r_iadd dW_law_1071 ?_
  refine r_sload h.1 dW_law_1072 ?_
  replace h := h.2
  refine r_aload_n 0 0 rfl dW_law_1073 rfl ?_
  refine r_iload_n 3 3 rfl dW_law_1074 rfl ?_
  refine r_iconst dW_law_1075 ?_
  refine r_iadd dW_law_1076 ?_
  refine r_sload h.1 dW_law_1077 ?_
  replace h := h.2
  refine r_callVi 0 [_, _, _] rfl c1 rfl rfl oZ_act iZ_act sZ_act yW_148 (by decide) ⟨Nat.le_refl _, Nat.le_refl _⟩ rfl (Nat.le_of_ble_eq_true rfl) dW_law_1078 h (fun z1 r1 m1 h => ?_)
  obtain ⟨sw1, rfl, h⟩ := h
  refine r_aload_n 2 2 rfl dW_law_1081 rfl ?_
  refine r_aload_n 0 0 rfl dW_law_1082 rfl ?_
  refine r_iload_n 3 3 rfl dW_law_1083 rfl ?_
  refine r_iconst dW_law_1084 ?_
  refine r_iadd dW_law_1085 ?_
  refine r_sload h.1 dW_law_1086 ?_
  replace h := h.2
  refine r_aload_n 0 0 rfl dW_law_1087 rfl ?_
  refine r_iload_n 3 3 rfl dW_law_1088 rfl ?_
  refine r_iconst dW_law_1089 ?_
  refine r_iadd dW_law_1090 ?_
  refine r_sload h.1 dW_law_1091 ?_
  replace h := h.2
  refine r_aload_n 0 0 rfl dW_law_1092 rfl ?_
  refine r_iload_n 3 3 rfl dW_law_1093 rfl ?_
  refine r_iconst dW_law_1094 ?_
  refine r_iadd dW_law_1095 ?_
  refine r_sload h.1 dW_law_1096 ?_
  replace h := h.2
  refine r_callVi 12 [_, _, _] rfl c84 rfl rfl oY_act iY_act sY_act yW_151 (by decide) ⟨Nat.le_refl _, Nat.le_refl _⟩ rfl (Nat.le_of_ble_eq_true rfl) dW_law_1097 h (fun z2 r2 m2 h => ?_)
  obtain ⟨sw2, rfl, h⟩ := h
  refine r_ifc_eq (tgt := 1430) dW_law_1100 (by decide) (fun hc => ?_) (fun hc => ?_)
  · replace h := h.1 hc
    refine r_sub [0, 1, 2, 3] ?_ h
    rfl
  · replace h := h.2 hc
    refine r_iconst dW_law_1103 ?_
    exact q_bret3 rfl (Or.inl rfl) h dW_law_1104
set_option maxRecDepth 4000 in
theorem wW_law_1105 {X : Cx} (x3 : Int) (sw : Bool) (m : Mem) (Q : Int → Bool → Mem → Prop) (h : ((0 ≤ w32 (x3 + 1) ∧ w32 (x3 + 1) < (xN X : Int)) ∧ M2 X 2 mZ_trace [vr 1, vi (xS X (w32 (x3 + 1)).toNat)] sw m (fun z1 sw1 m1 => ((0 ≤ w32 (x3 + 1) ∧ w32 (x3 + 1) < (xN X : Int)) ∧ M2 X 1 mY_trace [vr 84, vi (xS X (w32 (x3 + 1)).toNat)] sw1 m1 (fun z2 sw2 m2 => ((w32 z1 = w32 z2 → R3 X 84 mW_law 1430 [(0, vr 1007), (1, vr 1), (2, vr 84), (3, vi x3)] [] sw2 m2 Q) ∧ (¬ (w32 z1 = w32 z2) → Q 0 sw2 m2))))))) : R3 X 84 mW_law 1105 [(0, vr 1007), (1, vr 1), (2, vr 84), (3, vi x3)] [] sw m Q := by
  refine r_aload_n 1 1 rfl dW_law_1105 rfl ?_
  refine r_aload_n 0 0 rfl dW_law_1106 rfl ?_
  refine r_iload_n 3 3 rfl dW_law_1107 rfl ?_
  refine r_iconst dW_law_1108 ?_
  refine r_iadd dW_law_1109 ?_
  refine r_sload h.1 dW_law_1110 ?_
  replace h := h.2
  refine r_callVi 0 [_] rfl c1 rfl rfl oZ_trace iZ_trace sZ_trace yW_152 (by decide) ⟨Nat.le_refl _, Nat.le_refl _⟩ rfl (Nat.le_of_ble_eq_true rfl) dW_law_1111 h (fun z1 r1 m1 h => ?_)
  obtain ⟨sw1, rfl, h⟩ := h
  refine r_aload_n 2 2 rfl dW_law_1114 rfl ?_
  refine r_aload_n 0 0 rfl dW_law_1115 rfl ?_
  refine r_iload_n 3 3 rfl dW_law_1116 rfl ?_
  refine r_iconst dW_law_1117 ?_
  refine r_iadd dW_law_1118 ?_
  refine r_sload h.1 dW_law_1119 ?_
  replace h := h.2
  refine r_callVi 12 [_] rfl c84 rfl rfl oY_trace iY_trace sY_trace yW_155 (by decide) ⟨Nat.le_refl _, Nat.le_refl _⟩ rfl (Nat.le_of_ble_eq_true rfl) dW_law_1120 h (fun z2 r2 m2 h => ?_)
  obtain ⟨sw2, rfl, h⟩ := h
  refine r_ifc_eq (tgt := 1430) dW_law_1123 (by decide) (fun hc => ?_) (fun hc => ?_)
  · replace h := h.1 hc
    refine r_sub [0, 1, 2, 3] ?_ h
    rfl
  · replace h := h.2 hc
    refine r_iconst dW_law_1126 ?_
    exact q_bret3 rfl (Or.inl rfl) h dW_law_1127
set_option maxRecDepth 4000 in
theorem wW_law_1128 {X : Cx} (x3 : Int) (sw : Bool) (m : Mem) (Q : Int → Bool → Mem → Prop) (h : ((0 ≤ w32 (x3 + 1) ∧ w32 (x3 + 1) < (xN X : Int)) ∧ ((0 ≤ w32 (x3 + 2) ∧ w32 (x3 + 2) < (xN X : Int)) ∧ M2 X 3 mZ_keep [vr 1, vi (xS X (w32 (x3 + 1)).toNat), vi (xS X (w32 (x3 + 2)).toNat)] sw m (fun z1 sw1 m1 => ((0 ≤ w32 (x3 + 1) ∧ w32 (x3 + 1) < (xN X : Int)) ∧ ((0 ≤ w32 (x3 + 2) ∧ w32 (x3 + 2) < (xN X : Int)) ∧ M2 X 3 mY_keep [vr 84, vi (xS X (w32 (x3 + 1)).toNat), vi (xS X (w32 (x3 + 2)).toNat)] sw1 m1 (fun z2 sw2 m2 => ((w32 z1 = w32 z2 → R3 X 84 mW_law 1430 [(0, vr 1007), (1, vr 1), (2, vr 84), (3, vi x3)] [] sw2 m2 Q) ∧ (¬ (w32 z1 = w32 z2) → Q 0 sw2 m2))))))))) : R3 X 84 mW_law 1128 [(0, vr 1007), (1, vr 1), (2, vr 84), (3, vi x3)] [] sw m Q := by
  refine r_aload_n 1 1 rfl dW_law_1128 rfl ?_
  refine r_aload_n 0 0 rfl dW_law_1129 rfl ?_
  refine r_iload_n 3 3 rfl dW_law_1130 rfl ?_
  refine r_iconst dW_law_1131 ?_
  refine r_iadd dW_law_1132 ?_
  refine r_sload h.1 dW_law_1133 ?_
  replace h := h.2
  refine r_aload_n 0 0 rfl dW_law_1134 rfl ?_
  refine r_iload_n 3 3 rfl dW_law_1135 rfl ?_
  refine r_iconst dW_law_1136 ?_
  refine r_iadd dW_law_1137 ?_
  refine r_sload h.1 dW_law_1138 ?_
  replace h := h.2
  refine r_callVi 0 [_, _] rfl c1 rfl rfl oZ_keep iZ_keep sZ_keep yW_156 (by decide) ⟨Nat.le_refl _, Nat.le_refl _⟩ rfl (Nat.le_of_ble_eq_true rfl) dW_law_1139 h (fun z1 r1 m1 h => ?_)
  obtain ⟨sw1, rfl, h⟩ := h
  refine r_aload_n 2 2 rfl dW_law_1142 rfl ?_
  refine r_aload_n 0 0 rfl dW_law_1143 rfl ?_
  refine r_iload_n 3 3 rfl dW_law_1144 rfl ?_
  refine r_iconst dW_law_1145 ?_
  refine r_iadd dW_law_1146 ?_
  refine r_sload h.1 dW_law_1147 ?_
  replace h := h.2
  refine r_aload_n 0 0 rfl dW_law_1148 rfl ?_
  refine r_iload_n 3 3 rfl dW_law_1149 rfl ?_
  refine r_iconst dW_law_1150 ?_
  refine r_iadd dW_law_1151 ?_
  refine r_sload h.1 dW_law_1152 ?_
  replace h := h.2
  refine r_callVi 12 [_, _] rfl c84 rfl rfl oY_keep iY_keep sY_keep yW_159 (by decide) ⟨Nat.le_refl _, Nat.le_refl _⟩ rfl (Nat.le_of_ble_eq_true rfl) dW_law_1153 h (fun z2 r2 m2 h => ?_)
  obtain ⟨sw2, rfl, h⟩ := h
  refine r_ifc_eq (tgt := 1430) dW_law_1156 (by decide) (fun hc => ?_) (fun hc => ?_)
  · replace h := h.1 hc
    refine r_sub [0, 1, 2, 3] ?_ h
    rfl
  · replace h := h.2 hc
    refine r_iconst dW_law_1159 ?_
    exact q_bret3 rfl (Or.inl rfl) h dW_law_1160
set_option maxRecDepth 4000 in
theorem wW_law_1161 {X : Cx} (x3 : Int) (sw : Bool) (m : Mem) (Q : Int → Bool → Mem → Prop) (h : ((0 ≤ w32 (x3 + 1) ∧ w32 (x3 + 1) < (xN X : Int)) ∧ ((0 ≤ w32 (x3 + 2) ∧ w32 (x3 + 2) < (xN X : Int)) ∧ ((0 ≤ w32 (x3 + 3) ∧ w32 (x3 + 3) < (xN X : Int)) ∧ M2 X 3 mZ_row [vr 1, vi (xS X (w32 (x3 + 1)).toNat), vi (xS X (w32 (x3 + 2)).toNat), vi (xS X (w32 (x3 + 3)).toNat)] sw m (fun z1 sw1 m1 => ((0 ≤ w32 (x3 + 1) ∧ w32 (x3 + 1) < (xN X : Int)) ∧ ((0 ≤ w32 (x3 + 2) ∧ w32 (x3 + 2) < (xN X : Int)) ∧ ((0 ≤ w32 (x3 + 3) ∧ w32 (x3 + 3) < (xN X : Int)) ∧ M2 X 3 mY_row [vr 84, vi (xS X (w32 (x3 + 1)).toNat), vi (xS X (w32 (x3 + 2)).toNat), vi (xS X (w32 (x3 + 3)).toNat)] sw1 m1 (fun z2 sw2 m2 => ((w32 z1 = w32 z2 → R3 X 84 mW_law 1430 [(0, vr 1007), (1, vr 1), (2, vr 84), (3, vi x3)] [] sw2 m2 Q) ∧ (¬ (w32 z1 = w32 z2) → Q 0 sw2 m2))))))))))) : R3 X 84 mW_law 1161 [(0, vr 1007), (1, vr 1), (2, vr 84), (3, vi x3)] [] sw m Q := by
  refine r_aload_n 1 1 rfl dW_law_1161 rfl ?_
  refine r_aload_n 0 0 rfl dW_law_1162 rfl ?_
  refine r_iload_n 3 3 rfl dW_law_1163 rfl ?_
  refine r_iconst dW_law_1164 ?_
  refine r_iadd dW_law_1165 ?_
  refine r_sload h.1 dW_law_1166 ?_
  replace h := h.2
  refine r_aload_n 0 0 rfl dW_law_1167 rfl ?_
  refine r_iload_n 3 3 rfl dW_law_1168 rfl ?_
  refine r_iconst dW_law_1169 ?_
  refine r_iadd dW_law_1170 ?_
  refine r_sload h.1 dW_law_1171 ?_
  replace h := h.2
  refine r_aload_n 0 0 rfl dW_law_1172 rfl ?_
  refine r_iload_n 3 3 rfl dW_law_1173 rfl ?_
  refine r_iconst dW_law_1174 ?_
  refine r_iadd dW_law_1175 ?_
  refine r_sload h.1 dW_law_1176 ?_
  replace h := h.2
  refine r_callVi 0 [_, _, _] rfl c1 rfl rfl oZ_row iZ_row sZ_row yW_160 (by decide) ⟨Nat.le_refl _, Nat.le_refl _⟩ rfl (Nat.le_of_ble_eq_true rfl) dW_law_1177 h (fun z1 r1 m1 h => ?_)
  obtain ⟨sw1, rfl, h⟩ := h
  refine r_aload_n 2 2 rfl dW_law_1180 rfl ?_
  refine r_aload_n 0 0 rfl dW_law_1181 rfl ?_
  refine r_iload_n 3 3 rfl dW_law_1182 rfl ?_
  refine r_iconst dW_law_1183 ?_
  refine r_iadd dW_law_1184 ?_
  refine r_sload h.1 dW_law_1185 ?_
  replace h := h.2
  refine r_aload_n 0 0 rfl dW_law_1186 rfl ?_
  refine r_iload_n 3 3 rfl dW_law_1187 rfl ?_
  refine r_iconst dW_law_1188 ?_
  refine r_iadd dW_law_1189 ?_
  refine r_sload h.1 dW_law_1190 ?_
  replace h := h.2
  refine r_aload_n 0 0 rfl dW_law_1191 rfl ?_
  refine r_iload_n 3 3 rfl dW_law_1192 rfl ?_
  refine r_iconst dW_law_1193 ?_
  refine r_iadd dW_law_1194 ?_
  refine r_sload h.1 dW_law_1195 ?_
  replace h := h.2
  refine r_callVi 12 [_, _, _] rfl c84 rfl rfl oY_row iY_row sY_row yW_163 (by decide) ⟨Nat.le_refl _, Nat.le_refl _⟩ rfl (Nat.le_of_ble_eq_true rfl) dW_law_1196 h (fun z2 r2 m2 h => ?_)
  obtain ⟨sw2, rfl, h⟩ := h
  refine r_ifc_eq (tgt := 1430) dW_law_1199 (by decide) (fun hc => ?_) (fun hc => ?_)
  · replace h := h.1 hc
    refine r_sub [0, 1, 2, 3] ?_ h
    rfl
  · replace h := h.2 hc
    refine r_iconst dW_law_1202 ?_
    exact q_bret3 rfl (Or.inl rfl) h dW_law_1203
set_option maxRecDepth 4000 in
theorem wW_law_1204 {X : Cx} (x3 : Int) (sw : Bool) (m : Mem) (Q : Int → Bool → Mem → Prop) (h : ((0 ≤ w32 (x3 + 1) ∧ w32 (x3 + 1) < (xN X : Int)) ∧ ((0 ≤ w32 (x3 + 2) ∧ w32 (x3 + 2) < (xN X : Int)) ∧ ((0 ≤ w32 (x3 + 3) ∧ w32 (x3 + 3) < (xN X : Int)) ∧ ((0 ≤ w32 (x3 + 4) ∧ w32 (x3 + 4) < (xN X : Int)) ∧ M2 X 5 mZ_put [vr 1, vi (xS X (w32 (x3 + 1)).toNat), vi (xS X (w32 (x3 + 2)).toNat), vl (zlor (zlshl (w32 (xS X (w32 (x3 + 3)).toNat)) 32) (zland (w32 (xS X (w32 (x3 + 4)).toNat)) 4294967295))] sw m (fun z1 sw1 m1 => ((0 ≤ w32 (x3 + 1) ∧ w32 (x3 + 1) < (xN X : Int)) ∧ ((0 ≤ w32 (x3 + 2) ∧ w32 (x3 + 2) < (xN X : Int)) ∧ ((0 ≤ w32 (x3 + 3) ∧ w32 (x3 + 3) < (xN X : Int)) ∧ ((0 ≤ w32 (x3 + 4) ∧ w32 (x3 + 4) < (xN X : Int)) ∧ M2 X 4 mY_put [vr 84, vi (xS X (w32 (x3 + 1)).toNat), vi (xS X (w32 (x3 + 2)).toNat), vl (zlor (zlshl (w32 (xS X (w32 (x3 + 3)).toNat)) 32) (zland (w32 (xS X (w32 (x3 + 4)).toNat)) 4294967295))] sw1 m1 (fun z2 sw2 m2 => ((w32 z1 = w32 z2 → R3 X 84 mW_law 1430 [(0, vr 1007), (1, vr 1), (2, vr 84), (3, vi x3)] [] sw2 m2 Q) ∧ (¬ (w32 z1 = w32 z2) → Q 0 sw2 m2))))))))))))) : R3 X 84 mW_law 1204 [(0, vr 1007), (1, vr 1), (2, vr 84), (3, vi x3)] [] sw m Q := by
  refine r_aload_n 1 1 rfl dW_law_1204 rfl ?_
  refine r_aload_n 0 0 rfl dW_law_1205 rfl ?_
  refine r_iload_n 3 3 rfl dW_law_1206 rfl ?_
  refine r_iconst dW_law_1207 ?_
  refine r_iadd dW_law_1208 ?_
  refine r_sload h.1 dW_law_1209 ?_
  replace h := h.2
  refine r_aload_n 0 0 rfl dW_law_1210 rfl ?_
  refine r_iload_n 3 3 rfl dW_law_1211 rfl ?_
  refine r_iconst dW_law_1212 ?_
  refine r_iadd dW_law_1213 ?_
  refine r_sload h.1 dW_law_1214 ?_
  replace h := h.2
  refine r_aload_n 0 0 rfl dW_law_1215 rfl ?_
  refine r_iload_n 3 3 rfl dW_law_1216 rfl ?_
  refine r_iconst dW_law_1217 ?_
  refine r_iadd dW_law_1218 ?_
  refine r_sload h.1 dW_law_1219 ?_
  replace h := h.2
  refine r_i2l dW_law_1220 ?_
  refine r_bipush (by decide) dW_law_1221 ?_
  refine r_lshl dW_law_1223 ?_
  refine r_aload_n 0 0 rfl dW_law_1224 rfl ?_
  refine r_iload_n 3 3 rfl dW_law_1225 rfl ?_
  refine r_iconst dW_law_1226 ?_
  refine r_iadd dW_law_1227 ?_
  refine r_sload h.1 dW_law_1228 ?_
  replace h := h.2
  refine r_i2l dW_law_1229 ?_
  refine r_ldc2 (z := 4294967295) dW_law_1230 kW_164 ?_
  refine r_land dW_law_1233 ?_
  refine r_lor dW_law_1234 ?_
  refine r_callVi 0 [_, _, _] rfl c1 rfl rfl oZ_put iZ_put sZ_put yW_166 (by decide) ⟨Nat.le_refl _, Nat.le_refl _⟩ rfl (Nat.le_of_ble_eq_true rfl) dW_law_1235 h (fun z1 r1 m1 h => ?_)
  obtain ⟨sw1, rfl, h⟩ := h
  refine r_aload_n 2 2 rfl dW_law_1238 rfl ?_
  refine r_aload_n 0 0 rfl dW_law_1239 rfl ?_
  refine r_iload_n 3 3 rfl dW_law_1240 rfl ?_
  refine r_iconst dW_law_1241 ?_
  refine r_iadd dW_law_1242 ?_
  refine r_sload h.1 dW_law_1243 ?_
  replace h := h.2
  refine r_aload_n 0 0 rfl dW_law_1244 rfl ?_
  refine r_iload_n 3 3 rfl dW_law_1245 rfl ?_
  refine r_iconst dW_law_1246 ?_
  refine r_iadd dW_law_1247 ?_
  refine r_sload h.1 dW_law_1248 ?_
  replace h := h.2
  refine r_aload_n 0 0 rfl dW_law_1249 rfl ?_
  refine r_iload_n 3 3 rfl dW_law_1250 rfl ?_
  refine r_iconst dW_law_1251 ?_
  refine r_iadd dW_law_1252 ?_
  refine r_sload h.1 dW_law_1253 ?_
  replace h := h.2
  refine r_i2l dW_law_1254 ?_
  refine r_bipush (by decide) dW_law_1255 ?_
  refine r_lshl dW_law_1257 ?_
  refine r_aload_n 0 0 rfl dW_law_1258 rfl ?_
  refine r_iload_n 3 3 rfl dW_law_1259 rfl ?_
  refine r_iconst dW_law_1260 ?_
  refine r_iadd dW_law_1261 ?_
  refine r_sload h.1 dW_law_1262 ?_
  replace h := h.2
  refine r_i2l dW_law_1263 ?_
  refine r_ldc2 (z := 4294967295) dW_law_1264 kW_164 ?_
  refine r_land dW_law_1267 ?_
  refine r_lor dW_law_1268 ?_
  refine r_callVi 12 [_, _, _] rfl c84 rfl rfl oY_put iY_put sY_put yW_170 (by decide) ⟨Nat.le_refl _, Nat.le_refl _⟩ rfl (Nat.le_of_ble_eq_true rfl) dW_law_1269 h (fun z2 r2 m2 h => ?_)
  obtain ⟨sw2, rfl, h⟩ := h
  refine r_ifc_eq (tgt := 1430) dW_law_1272 (by decide) (fun hc => ?_) (fun hc => ?_)
  · replace h := h.1 hc
    refine r_sub [0, 1, 2, 3] ?_ h
    rfl
  · replace h := h.2 hc
    refine r_iconst dW_law_1275 ?_
    exact q_bret3 rfl (Or.inl rfl) h dW_law_1276
set_option maxRecDepth 4000 in
theorem wW_law_1277 {X : Cx} (x3 : Int) (sw : Bool) (m : Mem) (Q : Int → Bool → Mem → Prop) (h : ((0 ≤ w32 (x3 + 1) ∧ w32 (x3 + 1) < (xN X : Int)) ∧ ((0 ≤ w32 (x3 + 2) ∧ w32 (x3 + 2) < (xN X : Int)) ∧ M2 X 5 mZ_element [vr 1, vi (xS X (w32 (x3 + 1)).toNat), vi (xS X (w32 (x3 + 2)).toNat)] sw m (fun z1 sw1 m1 => ((0 ≤ w32 (x3 + 1) ∧ w32 (x3 + 1) < (xN X : Int)) ∧ ((0 ≤ w32 (x3 + 2) ∧ w32 (x3 + 2) < (xN X : Int)) ∧ M2 X 4 mY_element [vr 84, vi (xS X (w32 (x3 + 1)).toNat), vi (xS X (w32 (x3 + 2)).toNat)] sw1 m1 (fun z2 sw2 m2 => ((w64 z1 = w64 z2 → R3 X 84 mW_law 1430 [(0, vr 1007), (1, vr 1), (2, vr 84), (3, vi x3)] [] sw2 m2 Q) ∧ (¬ (w64 z1 = w64 z2) → Q 0 sw2 m2))))))))) : R3 X 84 mW_law 1277 [(0, vr 1007), (1, vr 1), (2, vr 84), (3, vi x3)] [] sw m Q := by
  refine r_aload_n 1 1 rfl dW_law_1277 rfl ?_
  refine r_aload_n 0 0 rfl dW_law_1278 rfl ?_
  refine r_iload_n 3 3 rfl dW_law_1279 rfl ?_
  refine r_iconst dW_law_1280 ?_
  refine r_iadd dW_law_1281 ?_
  refine r_sload h.1 dW_law_1282 ?_
  replace h := h.2
  refine r_aload_n 0 0 rfl dW_law_1283 rfl ?_
  refine r_iload_n 3 3 rfl dW_law_1284 rfl ?_
  refine r_iconst dW_law_1285 ?_
  refine r_iadd dW_law_1286 ?_
  refine r_sload h.1 dW_law_1287 ?_
  replace h := h.2
  refine r_callVl 0 [_, _] rfl c1 rfl rfl oZ_element iZ_element sZ_element yW_171 (by decide) ⟨Nat.le_refl _, Nat.le_refl _⟩ rfl (Nat.le_of_ble_eq_true rfl) dW_law_1288 h (fun z1 r1 m1 h => ?_)
  obtain ⟨sw1, rfl, h⟩ := h
  refine r_aload_n 2 2 rfl dW_law_1291 rfl ?_
  refine r_aload_n 0 0 rfl dW_law_1292 rfl ?_
  refine r_iload_n 3 3 rfl dW_law_1293 rfl ?_
  refine r_iconst dW_law_1294 ?_
  refine r_iadd dW_law_1295 ?_
  refine r_sload h.1 dW_law_1296 ?_
  replace h := h.2
  refine r_aload_n 0 0 rfl dW_law_1297 rfl ?_
  refine r_iload_n 3 3 rfl dW_law_1298 rfl ?_
  refine r_iconst dW_law_1299 ?_
  refine r_iadd dW_law_1300 ?_
  refine r_sload h.1 dW_law_1301 ?_
  replace h := h.2
  refine r_callVl 12 [_, _] rfl c84 rfl rfl oY_element iY_element sY_element yW_174 (by decide) ⟨Nat.le_refl _, Nat.le_refl _⟩ rfl (Nat.le_of_ble_eq_true rfl) dW_law_1302 h (fun z2 r2 m2 h => ?_)
  obtain ⟨sw2, rfl, h⟩ := h
  refine q_lc_eq (tgt := 1430) (A := w64 z1) (B := w64 z2) rfl rfl dW_law_1305 dW_law_1306 (by decide) (fun hc => ?_) (fun hc => ?_)
  · replace h := h.1 hc
    refine r_sub [0, 1, 2, 3] ?_ h
    rfl
  · replace h := h.2 hc
    refine r_iconst dW_law_1309 ?_
    exact q_bret3 rfl (Or.inl rfl) h dW_law_1310
set_option maxRecDepth 4000 in
theorem wW_law_1311 {X : Cx} (x3 : Int) (sw : Bool) (m : Mem) (Q : Int → Bool → Mem → Prop) (h : ((0 ≤ w32 (x3 + 1) ∧ w32 (x3 + 1) < (xN X : Int)) ∧ ((0 ≤ w32 (x3 + 2) ∧ w32 (x3 + 2) < (xN X : Int)) ∧ ((0 ≤ w32 (x3 + 3) ∧ w32 (x3 + 3) < (xN X : Int)) ∧ ((0 ≤ w32 (x3 + 4) ∧ w32 (x3 + 4) < (xN X : Int)) ∧ ((0 ≤ w32 (x3 + 5) ∧ w32 (x3 + 5) < (xN X : Int)) ∧ M2 X 4 mZ_shift [vr 1, vi (xS X (w32 (x3 + 1)).toNat), vi (xS X (w32 (x3 + 2)).toNat), vi (xS X (w32 (x3 + 3)).toNat), vi (xS X (w32 (x3 + 4)).toNat), vi (xS X (w32 (x3 + 5)).toNat)] sw m (fun z1 sw1 m1 => ((0 ≤ w32 (x3 + 1) ∧ w32 (x3 + 1) < (xN X : Int)) ∧ ((0 ≤ w32 (x3 + 2) ∧ w32 (x3 + 2) < (xN X : Int)) ∧ ((0 ≤ w32 (x3 + 3) ∧ w32 (x3 + 3) < (xN X : Int)) ∧ ((0 ≤ w32 (x3 + 4) ∧ w32 (x3 + 4) < (xN X : Int)) ∧ ((0 ≤ w32 (x3 + 5) ∧ w32 (x3 + 5) < (xN X : Int)) ∧ M2 X 3 mY_shift [vr 84, vi (xS X (w32 (x3 + 1)).toNat), vi (xS X (w32 (x3 + 2)).toNat), vi (xS X (w32 (x3 + 3)).toNat), vi (xS X (w32 (x3 + 4)).toNat), vi (xS X (w32 (x3 + 5)).toNat)] sw1 m1 (fun z2 sw2 m2 => ((w32 z1 = w32 z2 → R3 X 84 mW_law 1430 [(0, vr 1007), (1, vr 1), (2, vr 84), (3, vi x3)] [] sw2 m2 Q) ∧ (¬ (w32 z1 = w32 z2) → Q 0 sw2 m2))))))))))))))) : R3 X 84 mW_law 1311 [(0, vr 1007), (1, vr 1), (2, vr 84), (3, vi x3)] [] sw m Q := by
  refine r_aload_n 1 1 rfl dW_law_1311 rfl ?_
  refine r_aload_n 0 0 rfl dW_law_1312 rfl ?_
  refine r_iload_n 3 3 rfl dW_law_1313 rfl ?_
  refine r_iconst dW_law_1314 ?_
  refine r_iadd dW_law_1315 ?_
  refine r_sload h.1 dW_law_1316 ?_
  replace h := h.2
  refine r_aload_n 0 0 rfl dW_law_1317 rfl ?_
  refine r_iload_n 3 3 rfl dW_law_1318 rfl ?_
  refine r_iconst dW_law_1319 ?_
  refine r_iadd dW_law_1320 ?_
  refine r_sload h.1 dW_law_1321 ?_
  replace h := h.2
  refine r_aload_n 0 0 rfl dW_law_1322 rfl ?_
  refine r_iload_n 3 3 rfl dW_law_1323 rfl ?_
  refine r_iconst dW_law_1324 ?_
  refine r_iadd dW_law_1325 ?_
  refine r_sload h.1 dW_law_1326 ?_
  replace h := h.2
  refine r_aload_n 0 0 rfl dW_law_1327 rfl ?_
  refine r_iload_n 3 3 rfl dW_law_1328 rfl ?_
  refine r_iconst dW_law_1329 ?_
  refine r_iadd dW_law_1330 ?_
  refine r_sload h.1 dW_law_1331 ?_
  replace h := h.2
  refine r_aload_n 0 0 rfl dW_law_1332 rfl ?_
  refine r_iload_n 3 3 rfl dW_law_1333 rfl ?_
  refine r_iconst dW_law_1334 ?_
  refine r_iadd dW_law_1335 ?_
  refine r_sload h.1 dW_law_1336 ?_
  replace h := h.2
  refine r_callVi 0 [_, _, _, _, _] rfl c1 rfl rfl oZ_shift iZ_shift sZ_shift yW_175 (by decide) ⟨Nat.le_refl _, Nat.le_refl _⟩ rfl (Nat.le_of_ble_eq_true rfl) dW_law_1337 h (fun z1 r1 m1 h => ?_)
  obtain ⟨sw1, rfl, h⟩ := h
  refine r_aload_n 2 2 rfl dW_law_1340 rfl ?_
  refine r_aload_n 0 0 rfl dW_law_1341 rfl ?_
  refine r_iload_n 3 3 rfl dW_law_1342 rfl ?_
  refine r_iconst dW_law_1343 ?_
  refine r_iadd dW_law_1344 ?_
  refine r_sload h.1 dW_law_1345 ?_
  replace h := h.2
  refine r_aload_n 0 0 rfl dW_law_1346 rfl ?_
  refine r_iload_n 3 3 rfl dW_law_1347 rfl ?_
  refine r_iconst dW_law_1348 ?_
  refine r_iadd dW_law_1349 ?_
  refine r_sload h.1 dW_law_1350 ?_
  replace h := h.2
  refine r_aload_n 0 0 rfl dW_law_1351 rfl ?_
  refine r_iload_n 3 3 rfl dW_law_1352 rfl ?_
  refine r_iconst dW_law_1353 ?_
  refine r_iadd dW_law_1354 ?_
  refine r_sload h.1 dW_law_1355 ?_
  replace h := h.2
  refine r_aload_n 0 0 rfl dW_law_1356 rfl ?_
  refine r_iload_n 3 3 rfl dW_law_1357 rfl ?_
  refine r_iconst dW_law_1358 ?_
  refine r_iadd dW_law_1359 ?_
  refine r_sload h.1 dW_law_1360 ?_
  replace h := h.2
  refine r_aload_n 0 0 rfl dW_law_1361 rfl ?_
  refine r_iload_n 3 3 rfl dW_law_1362 rfl ?_
  refine r_iconst dW_law_1363 ?_
  refine r_iadd dW_law_1364 ?_
  refine r_sload h.1 dW_law_1365 ?_
  replace h := h.2
  refine r_callVi 12 [_, _, _, _, _] rfl c84 rfl rfl oY_shift iY_shift sY_shift yW_179 (by decide) ⟨Nat.le_refl _, Nat.le_refl _⟩ rfl (Nat.le_of_ble_eq_true rfl) dW_law_1366 h (fun z2 r2 m2 h => ?_)
  obtain ⟨sw2, rfl, h⟩ := h
  refine r_ifc_eq (tgt := 1430) dW_law_1369 (by decide) (fun hc => ?_) (fun hc => ?_)
  · replace h := h.1 hc
    refine r_sub [0, 1, 2, 3] ?_ h
    rfl
  · replace h := h.2 hc
    refine r_iconst dW_law_1372 ?_
    exact q_bret3 rfl (Or.inl rfl) h dW_law_1373
set_option maxRecDepth 4000 in
theorem wW_law_1374 {X : Cx} (x3 : Int) (sw : Bool) (m : Mem) (Q : Int → Bool → Mem → Prop) (h : ((0 ≤ w32 (x3 + 1) ∧ w32 (x3 + 1) < (xN X : Int)) ∧ ((0 ≤ w32 (x3 + 2) ∧ w32 (x3 + 2) < (xN X : Int)) ∧ M2 X 5 mZ_taken [vr 1, vi (xS X (w32 (x3 + 1)).toNat), vi (xS X (w32 (x3 + 2)).toNat)] sw m (fun z1 sw1 m1 => ((0 ≤ w32 (x3 + 1) ∧ w32 (x3 + 1) < (xN X : Int)) ∧ ((0 ≤ w32 (x3 + 2) ∧ w32 (x3 + 2) < (xN X : Int)) ∧ M2 X 3 mY_taken [vr 84, vi (xS X (w32 (x3 + 1)).toNat), vi (xS X (w32 (x3 + 2)).toNat)] sw1 m1 (fun z2 sw2 m2 => ((w32 z1 = w32 z2 → R3 X 84 mW_law 1430 [(0, vr 1007), (1, vr 1), (2, vr 84), (3, vi x3)] [] sw2 m2 Q) ∧ (¬ (w32 z1 = w32 z2) → Q 0 sw2 m2))))))))) : R3 X 84 mW_law 1374 [(0, vr 1007), (1, vr 1), (2, vr 84), (3, vi x3)] [] sw m Q := by
  refine r_aload_n 1 1 rfl dW_law_1374 rfl ?_
  refine r_aload_n 0 0 rfl dW_law_1375 rfl ?_
  refine r_iload_n 3 3 rfl dW_law_1376 rfl ?_
  refine r_iconst dW_law_1377 ?_
  refine r_iadd dW_law_1378 ?_
  refine r_sload h.1 dW_law_1379 ?_
  replace h := h.2
  refine r_aload_n 0 0 rfl dW_law_1380 rfl ?_
  refine r_iload_n 3 3 rfl dW_law_1381 rfl ?_
  refine r_iconst dW_law_1382 ?_
  refine r_iadd dW_law_1383 ?_
  refine r_sload h.1 dW_law_1384 ?_
  replace h := h.2
  refine r_callVi 0 [_, _] rfl c1 rfl rfl oZ_taken iZ_taken sZ_taken yW_180 (by decide) ⟨Nat.le_refl _, Nat.le_refl _⟩ rfl (Nat.le_of_ble_eq_true rfl) dW_law_1385 h (fun z1 r1 m1 h => ?_)
  obtain ⟨sw1, rfl, h⟩ := h
  refine r_aload_n 2 2 rfl dW_law_1388 rfl ?_
  refine r_aload_n 0 0 rfl dW_law_1389 rfl ?_
  refine r_iload_n 3 3 rfl dW_law_1390 rfl ?_
  refine r_iconst dW_law_1391 ?_
  refine r_iadd dW_law_1392 ?_
  refine r_sload h.1 dW_law_1393 ?_
  replace h := h.2
  refine r_aload_n 0 0 rfl dW_law_1394 rfl ?_
  refine r_iload_n 3 3 rfl dW_law_1395 rfl ?_
  refine r_iconst dW_law_1396 ?_
  refine r_iadd dW_law_1397 ?_
  refine r_sload h.1 dW_law_1398 ?_
  replace h := h.2
  refine r_callVi 12 [_, _] rfl c84 rfl rfl oY_taken iY_taken sY_taken yW_183 (by decide) ⟨Nat.le_refl _, Nat.le_refl _⟩ rfl (Nat.le_of_ble_eq_true rfl) dW_law_1399 h (fun z2 r2 m2 h => ?_)
  obtain ⟨sw2, rfl, h⟩ := h
  refine r_ifc_eq (tgt := 1430) dW_law_1402 (by decide) (fun hc => ?_) (fun hc => ?_)
  · replace h := h.1 hc
    refine r_sub [0, 1, 2, 3] ?_ h
    rfl
  · replace h := h.2 hc
    refine r_iconst dW_law_1405 ?_
    exact q_bret3 rfl (Or.inl rfl) h dW_law_1406
set_option maxRecDepth 4000 in
theorem wW_law_1407 {X : Cx} (x3 : Int) (sw : Bool) (m : Mem) (Q : Int → Bool → Mem → Prop) (h : ((0 ≤ w32 (x3 + 1) ∧ w32 (x3 + 1) < (xN X : Int)) ∧ M2 X 1 mZ_count [vr 1, vi (xS X (w32 (x3 + 1)).toNat)] sw m (fun z1 sw1 m1 => ((0 ≤ w32 (x3 + 1) ∧ w32 (x3 + 1) < (xN X : Int)) ∧ M2 X 1 mY_count [vr 84, vi (xS X (w32 (x3 + 1)).toNat)] sw1 m1 (fun z2 sw2 m2 => ((w32 z1 = w32 z2 → R3 X 84 mW_law 1430 [(0, vr 1007), (1, vr 1), (2, vr 84), (3, vi x3)] [] sw2 m2 Q) ∧ (¬ (w32 z1 = w32 z2) → Q 0 sw2 m2))))))) : R3 X 84 mW_law 1407 [(0, vr 1007), (1, vr 1), (2, vr 84), (3, vi x3)] [] sw m Q := by
  refine r_aload_n 1 1 rfl dW_law_1407 rfl ?_
  refine r_aload_n 0 0 rfl dW_law_1408 rfl ?_
  refine r_iload_n 3 3 rfl dW_law_1409 rfl ?_
  refine r_iconst dW_law_1410 ?_
  refine r_iadd dW_law_1411 ?_
  refine r_sload h.1 dW_law_1412 ?_
  replace h := h.2
  refine r_callVi 0 [_] rfl c1 rfl rfl oZ_count iZ_count sZ_count yW_184 (by decide) ⟨Nat.le_refl _, Nat.le_refl _⟩ rfl (Nat.le_of_ble_eq_true rfl) dW_law_1413 h (fun z1 r1 m1 h => ?_)
  obtain ⟨sw1, rfl, h⟩ := h
  refine r_aload_n 2 2 rfl dW_law_1416 rfl ?_
  refine r_aload_n 0 0 rfl dW_law_1417 rfl ?_
  refine r_iload_n 3 3 rfl dW_law_1418 rfl ?_
  refine r_iconst dW_law_1419 ?_
  refine r_iadd dW_law_1420 ?_
  refine r_sload h.1 dW_law_1421 ?_
  replace h := h.2
  refine r_callVi 12 [_] rfl c84 rfl rfl oY_count iY_count sY_count yW_187 (by decide) ⟨Nat.le_refl _, Nat.le_refl _⟩ rfl (Nat.le_of_ble_eq_true rfl) dW_law_1422 h (fun z2 r2 m2 h => ?_)
  obtain ⟨sw2, rfl, h⟩ := h
  refine r_ifc_eq (tgt := 1430) dW_law_1425 (by decide) (fun hc => ?_) (fun hc => ?_)
  · replace h := h.1 hc
    refine r_sub [0, 1, 2, 3] ?_ h
    rfl
  · replace h := h.2 hc
    refine r_iconst dW_law_1428 ?_
    exact q_bret3 rfl (Or.inl rfl) h dW_law_1429
set_option maxRecDepth 4000 in
theorem wW_law_1430 {X : Cx} (x3 : Int) (sw : Bool) (m : Mem) (Q : Int → Bool → Mem → Prop) (h : R3 X 84 mW_law 18 [(0, vr 1007), (1, vr 1), (2, vr 84), (3, vi (x3 + 6))] [] sw m Q) : R3 X 84 mW_law 1430 [(0, vr 1007), (1, vr 1), (2, vr 84), (3, vi x3)] [] sw m Q := by
  refine r_iinc 3 3 rfl (by decide) dW_law_1430 ?_
  refine r_goto (tgt := 18) dW_law_1433 (by decide) ?_
  refine r_sub [1, 2, 3, 0] ?_ h
  rfl
