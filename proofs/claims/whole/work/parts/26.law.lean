theorem dL_law_0 : decode cL_law 0 = .ok (.new 7, 3) := by decide +kernel
theorem dL_law_3 : decode cL_law 3 = .ok (.dup, 1) := by decide +kernel
theorem dL_law_4 : decode cL_law 4 = .ok (.invokespecial 9, 3) := by decide +kernel
theorem dL_law_7 : decode cL_law 7 = .ok (.astore_n 1, 1) := by decide +kernel
theorem dL_law_8 : decode cL_law 8 = .ok (.new 10, 3) := by decide +kernel
theorem dL_law_11 : decode cL_law 11 = .ok (.dup, 1) := by decide +kernel
theorem dL_law_12 : decode cL_law 12 = .ok (.invokespecial 12, 3) := by decide +kernel
theorem dL_law_15 : decode cL_law 15 = .ok (.astore_n 2, 1) := by decide +kernel
theorem dL_law_16 : decode cL_law 16 = .ok (.iconst 0, 1) := by decide +kernel
theorem dL_law_17 : decode cL_law 17 = .ok (.istore_n 3, 1) := by decide +kernel
theorem dL_law_18 : decode cL_law 18 = .ok (.iload_n 3, 1) := by decide +kernel
theorem dL_law_19 : decode cL_law 19 = .ok (.aload_n 0, 1) := by decide +kernel
theorem dL_law_20 : decode cL_law 20 = .ok (.arraylength, 1) := by decide +kernel
theorem dL_law_21 : decode cL_law 21 = .ok (.bipush 6, 2) := by decide +kernel
theorem dL_law_23 : decode cL_law 23 = .ok (.isub, 1) := by decide +kernel
theorem dL_law_24 : decode cL_law 24 = .ok (.if_icmp .gt 1217, 3) := by decide +kernel
theorem dL_law_27 : decode cL_law 27 = .ok (.aload_n 0, 1) := by decide +kernel
theorem dL_law_28 : decode cL_law 28 = .ok (.iload_n 3, 1) := by decide +kernel
theorem dL_law_29 : decode cL_law 29 = .ok (.iaload, 1) := by decide +kernel
theorem dL_law_30 : decode cL_law 30 = .ok (.bipush 63, 2) := by decide +kernel
theorem dL_law_32 : decode cL_law 32 = .ok (.iand, 1) := by decide +kernel
theorem dL_law_33 : decode cL_law 33 = .ok (.tableswitch 1202 0 32 #[147, 210, 233, 246, 259, 292, 325, 358, 417, 440, 463, 486, 519, 542, 555, 588, 621, 654, 687, 720, 763, 786, 819, 842, 905, 948, 1001, 1044, 1087, 1120, 1133, 1156, 1179], 147) := by decide +kernel
theorem dL_law_180 : decode cL_law 180 = .ok (.aload_n 1, 1) := by decide +kernel
theorem dL_law_181 : decode cL_law 181 = .ok (.aload_n 0, 1) := by decide +kernel
theorem dL_law_182 : decode cL_law 182 = .ok (.iload_n 3, 1) := by decide +kernel
theorem dL_law_183 : decode cL_law 183 = .ok (.iconst 1, 1) := by decide +kernel
theorem dL_law_184 : decode cL_law 184 = .ok (.iadd, 1) := by decide +kernel
theorem dL_law_185 : decode cL_law 185 = .ok (.iaload, 1) := by decide +kernel
theorem dL_law_186 : decode cL_law 186 = .ok (.aload_n 0, 1) := by decide +kernel
theorem dL_law_187 : decode cL_law 187 = .ok (.iload_n 3, 1) := by decide +kernel
theorem dL_law_188 : decode cL_law 188 = .ok (.iconst 2, 1) := by decide +kernel
theorem dL_law_189 : decode cL_law 189 = .ok (.iadd, 1) := by decide +kernel
theorem dL_law_190 : decode cL_law 190 = .ok (.iaload, 1) := by decide +kernel
theorem dL_law_191 : decode cL_law 191 = .ok (.aload_n 0, 1) := by decide +kernel
theorem dL_law_192 : decode cL_law 192 = .ok (.iload_n 3, 1) := by decide +kernel
theorem dL_law_193 : decode cL_law 193 = .ok (.iconst 3, 1) := by decide +kernel
theorem dL_law_194 : decode cL_law 194 = .ok (.iadd, 1) := by decide +kernel
theorem dL_law_195 : decode cL_law 195 = .ok (.iaload, 1) := by decide +kernel
theorem dL_law_196 : decode cL_law 196 = .ok (.aload_n 0, 1) := by decide +kernel
theorem dL_law_197 : decode cL_law 197 = .ok (.iload_n 3, 1) := by decide +kernel
theorem dL_law_198 : decode cL_law 198 = .ok (.iconst 4, 1) := by decide +kernel
theorem dL_law_199 : decode cL_law 199 = .ok (.iadd, 1) := by decide +kernel
theorem dL_law_200 : decode cL_law 200 = .ok (.iaload, 1) := by decide +kernel
theorem dL_law_201 : decode cL_law 201 = .ok (.aload_n 0, 1) := by decide +kernel
theorem dL_law_202 : decode cL_law 202 = .ok (.iload_n 3, 1) := by decide +kernel
theorem dL_law_203 : decode cL_law 203 = .ok (.iconst 5, 1) := by decide +kernel
theorem dL_law_204 : decode cL_law 204 = .ok (.iadd, 1) := by decide +kernel
theorem dL_law_205 : decode cL_law 205 = .ok (.iaload, 1) := by decide +kernel
theorem dL_law_206 : decode cL_law 206 = .ok (.invokevirtual 13, 3) := by decide +kernel
theorem dL_law_209 : decode cL_law 209 = .ok (.aload_n 2, 1) := by decide +kernel
theorem dL_law_210 : decode cL_law 210 = .ok (.aload_n 0, 1) := by decide +kernel
theorem dL_law_211 : decode cL_law 211 = .ok (.iload_n 3, 1) := by decide +kernel
theorem dL_law_212 : decode cL_law 212 = .ok (.iconst 1, 1) := by decide +kernel
theorem dL_law_213 : decode cL_law 213 = .ok (.iadd, 1) := by decide +kernel
theorem dL_law_214 : decode cL_law 214 = .ok (.iaload, 1) := by decide +kernel
theorem dL_law_215 : decode cL_law 215 = .ok (.aload_n 0, 1) := by decide +kernel
theorem dL_law_216 : decode cL_law 216 = .ok (.iload_n 3, 1) := by decide +kernel
theorem dL_law_217 : decode cL_law 217 = .ok (.iconst 2, 1) := by decide +kernel
theorem dL_law_218 : decode cL_law 218 = .ok (.iadd, 1) := by decide +kernel
theorem dL_law_219 : decode cL_law 219 = .ok (.iaload, 1) := by decide +kernel
theorem dL_law_220 : decode cL_law 220 = .ok (.aload_n 0, 1) := by decide +kernel
theorem dL_law_221 : decode cL_law 221 = .ok (.iload_n 3, 1) := by decide +kernel
theorem dL_law_222 : decode cL_law 222 = .ok (.iconst 3, 1) := by decide +kernel
theorem dL_law_223 : decode cL_law 223 = .ok (.iadd, 1) := by decide +kernel
theorem dL_law_224 : decode cL_law 224 = .ok (.iaload, 1) := by decide +kernel
theorem dL_law_225 : decode cL_law 225 = .ok (.aload_n 0, 1) := by decide +kernel
theorem dL_law_226 : decode cL_law 226 = .ok (.iload_n 3, 1) := by decide +kernel
theorem dL_law_227 : decode cL_law 227 = .ok (.iconst 4, 1) := by decide +kernel
theorem dL_law_228 : decode cL_law 228 = .ok (.iadd, 1) := by decide +kernel
theorem dL_law_229 : decode cL_law 229 = .ok (.iaload, 1) := by decide +kernel
theorem dL_law_230 : decode cL_law 230 = .ok (.aload_n 0, 1) := by decide +kernel
theorem dL_law_231 : decode cL_law 231 = .ok (.iload_n 3, 1) := by decide +kernel
theorem dL_law_232 : decode cL_law 232 = .ok (.iconst 5, 1) := by decide +kernel
theorem dL_law_233 : decode cL_law 233 = .ok (.iadd, 1) := by decide +kernel
theorem dL_law_234 : decode cL_law 234 = .ok (.iaload, 1) := by decide +kernel
theorem dL_law_235 : decode cL_law 235 = .ok (.invokevirtual 17, 3) := by decide +kernel
theorem dL_law_238 : decode cL_law 238 = .ok (.if_icmp .eq 997, 3) := by decide +kernel
theorem dL_law_241 : decode cL_law 241 = .ok (.iconst 0, 1) := by decide +kernel
theorem dL_law_242 : decode cL_law 242 = .ok (.ireturn, 1) := by decide +kernel
theorem dL_law_243 : decode cL_law 243 = .ok (.aload_n 1, 1) := by decide +kernel
theorem dL_law_244 : decode cL_law 244 = .ok (.aload_n 0, 1) := by decide +kernel
theorem dL_law_245 : decode cL_law 245 = .ok (.iload_n 3, 1) := by decide +kernel
theorem dL_law_246 : decode cL_law 246 = .ok (.iconst 1, 1) := by decide +kernel
theorem dL_law_247 : decode cL_law 247 = .ok (.iadd, 1) := by decide +kernel
theorem dL_law_248 : decode cL_law 248 = .ok (.iaload, 1) := by decide +kernel
theorem dL_law_249 : decode cL_law 249 = .ok (.invokevirtual 18, 3) := by decide +kernel
theorem dL_law_252 : decode cL_law 252 = .ok (.aload_n 2, 1) := by decide +kernel
theorem dL_law_253 : decode cL_law 253 = .ok (.aload_n 0, 1) := by decide +kernel
theorem dL_law_254 : decode cL_law 254 = .ok (.iload_n 3, 1) := by decide +kernel
theorem dL_law_255 : decode cL_law 255 = .ok (.iconst 1, 1) := by decide +kernel
theorem dL_law_256 : decode cL_law 256 = .ok (.iadd, 1) := by decide +kernel
theorem dL_law_257 : decode cL_law 257 = .ok (.iaload, 1) := by decide +kernel
theorem dL_law_258 : decode cL_law 258 = .ok (.invokevirtual 22, 3) := by decide +kernel
theorem dL_law_261 : decode cL_law 261 = .ok (.if_icmp .eq 974, 3) := by decide +kernel
theorem dL_law_264 : decode cL_law 264 = .ok (.iconst 0, 1) := by decide +kernel
theorem dL_law_265 : decode cL_law 265 = .ok (.ireturn, 1) := by decide +kernel
theorem dL_law_266 : decode cL_law 266 = .ok (.aload_n 1, 1) := by decide +kernel
theorem dL_law_267 : decode cL_law 267 = .ok (.invokevirtual 23, 3) := by decide +kernel
theorem dL_law_270 : decode cL_law 270 = .ok (.aload_n 2, 1) := by decide +kernel
theorem dL_law_271 : decode cL_law 271 = .ok (.invokevirtual 27, 3) := by decide +kernel
theorem dL_law_274 : decode cL_law 274 = .ok (.if_icmp .eq 961, 3) := by decide +kernel
theorem dL_law_277 : decode cL_law 277 = .ok (.iconst 0, 1) := by decide +kernel
theorem dL_law_278 : decode cL_law 278 = .ok (.ireturn, 1) := by decide +kernel
theorem dL_law_279 : decode cL_law 279 = .ok (.aload_n 1, 1) := by decide +kernel
theorem dL_law_280 : decode cL_law 280 = .ok (.invokevirtual 28, 3) := by decide +kernel
theorem dL_law_283 : decode cL_law 283 = .ok (.aload_n 2, 1) := by decide +kernel
theorem dL_law_284 : decode cL_law 284 = .ok (.invokevirtual 31, 3) := by decide +kernel
theorem dL_law_287 : decode cL_law 287 = .ok (.if_icmp .eq 948, 3) := by decide +kernel
theorem dL_law_290 : decode cL_law 290 = .ok (.iconst 0, 1) := by decide +kernel
theorem dL_law_291 : decode cL_law 291 = .ok (.ireturn, 1) := by decide +kernel
theorem dL_law_292 : decode cL_law 292 = .ok (.aload_n 1, 1) := by decide +kernel
theorem dL_law_293 : decode cL_law 293 = .ok (.aload_n 0, 1) := by decide +kernel
theorem dL_law_294 : decode cL_law 294 = .ok (.iload_n 3, 1) := by decide +kernel
theorem dL_law_295 : decode cL_law 295 = .ok (.iconst 1, 1) := by decide +kernel
theorem dL_law_296 : decode cL_law 296 = .ok (.iadd, 1) := by decide +kernel
theorem dL_law_297 : decode cL_law 297 = .ok (.iaload, 1) := by decide +kernel
theorem dL_law_298 : decode cL_law 298 = .ok (.aload_n 0, 1) := by decide +kernel
theorem dL_law_299 : decode cL_law 299 = .ok (.iload_n 3, 1) := by decide +kernel
theorem dL_law_300 : decode cL_law 300 = .ok (.iconst 2, 1) := by decide +kernel
theorem dL_law_301 : decode cL_law 301 = .ok (.iadd, 1) := by decide +kernel
theorem dL_law_302 : decode cL_law 302 = .ok (.iaload, 1) := by decide +kernel
theorem dL_law_303 : decode cL_law 303 = .ok (.invokevirtual 32, 3) := by decide +kernel
theorem dL_law_306 : decode cL_law 306 = .ok (.aload_n 2, 1) := by decide +kernel
theorem dL_law_307 : decode cL_law 307 = .ok (.aload_n 0, 1) := by decide +kernel
theorem dL_law_308 : decode cL_law 308 = .ok (.iload_n 3, 1) := by decide +kernel
theorem dL_law_309 : decode cL_law 309 = .ok (.iconst 1, 1) := by decide +kernel
theorem dL_law_310 : decode cL_law 310 = .ok (.iadd, 1) := by decide +kernel
theorem dL_law_311 : decode cL_law 311 = .ok (.iaload, 1) := by decide +kernel
theorem dL_law_312 : decode cL_law 312 = .ok (.aload_n 0, 1) := by decide +kernel
theorem dL_law_313 : decode cL_law 313 = .ok (.iload_n 3, 1) := by decide +kernel
theorem dL_law_314 : decode cL_law 314 = .ok (.iconst 2, 1) := by decide +kernel
theorem dL_law_315 : decode cL_law 315 = .ok (.iadd, 1) := by decide +kernel
theorem dL_law_316 : decode cL_law 316 = .ok (.iaload, 1) := by decide +kernel
theorem dL_law_317 : decode cL_law 317 = .ok (.invokevirtual 36, 3) := by decide +kernel
theorem dL_law_320 : decode cL_law 320 = .ok (.if_icmp .eq 915, 3) := by decide +kernel
theorem dL_law_323 : decode cL_law 323 = .ok (.iconst 0, 1) := by decide +kernel
theorem dL_law_324 : decode cL_law 324 = .ok (.ireturn, 1) := by decide +kernel
theorem dL_law_325 : decode cL_law 325 = .ok (.aload_n 1, 1) := by decide +kernel
theorem dL_law_326 : decode cL_law 326 = .ok (.aload_n 0, 1) := by decide +kernel
theorem dL_law_327 : decode cL_law 327 = .ok (.iload_n 3, 1) := by decide +kernel
theorem dL_law_328 : decode cL_law 328 = .ok (.iconst 1, 1) := by decide +kernel
theorem dL_law_329 : decode cL_law 329 = .ok (.iadd, 1) := by decide +kernel
theorem dL_law_330 : decode cL_law 330 = .ok (.iaload, 1) := by decide +kernel
theorem dL_law_331 : decode cL_law 331 = .ok (.aload_n 0, 1) := by decide +kernel
theorem dL_law_332 : decode cL_law 332 = .ok (.iload_n 3, 1) := by decide +kernel
theorem dL_law_333 : decode cL_law 333 = .ok (.iconst 2, 1) := by decide +kernel
theorem dL_law_334 : decode cL_law 334 = .ok (.iadd, 1) := by decide +kernel
theorem dL_law_335 : decode cL_law 335 = .ok (.iaload, 1) := by decide +kernel
theorem dL_law_336 : decode cL_law 336 = .ok (.invokevirtual 37, 3) := by decide +kernel
theorem dL_law_339 : decode cL_law 339 = .ok (.aload_n 2, 1) := by decide +kernel
theorem dL_law_340 : decode cL_law 340 = .ok (.aload_n 0, 1) := by decide +kernel
theorem dL_law_341 : decode cL_law 341 = .ok (.iload_n 3, 1) := by decide +kernel
theorem dL_law_342 : decode cL_law 342 = .ok (.iconst 1, 1) := by decide +kernel
theorem dL_law_343 : decode cL_law 343 = .ok (.iadd, 1) := by decide +kernel
theorem dL_law_344 : decode cL_law 344 = .ok (.iaload, 1) := by decide +kernel
theorem dL_law_345 : decode cL_law 345 = .ok (.aload_n 0, 1) := by decide +kernel
theorem dL_law_346 : decode cL_law 346 = .ok (.iload_n 3, 1) := by decide +kernel
theorem dL_law_347 : decode cL_law 347 = .ok (.iconst 2, 1) := by decide +kernel
theorem dL_law_348 : decode cL_law 348 = .ok (.iadd, 1) := by decide +kernel
theorem dL_law_349 : decode cL_law 349 = .ok (.iaload, 1) := by decide +kernel
theorem dL_law_350 : decode cL_law 350 = .ok (.invokevirtual 40, 3) := by decide +kernel
theorem dL_law_353 : decode cL_law 353 = .ok (.if_icmp .eq 882, 3) := by decide +kernel
theorem dL_law_356 : decode cL_law 356 = .ok (.iconst 0, 1) := by decide +kernel
theorem dL_law_357 : decode cL_law 357 = .ok (.ireturn, 1) := by decide +kernel
theorem dL_law_358 : decode cL_law 358 = .ok (.aload_n 1, 1) := by decide +kernel
theorem dL_law_359 : decode cL_law 359 = .ok (.aload_n 0, 1) := by decide +kernel
theorem dL_law_360 : decode cL_law 360 = .ok (.iload_n 3, 1) := by decide +kernel
theorem dL_law_361 : decode cL_law 361 = .ok (.iconst 1, 1) := by decide +kernel
theorem dL_law_362 : decode cL_law 362 = .ok (.iadd, 1) := by decide +kernel
theorem dL_law_363 : decode cL_law 363 = .ok (.iaload, 1) := by decide +kernel
theorem dL_law_364 : decode cL_law 364 = .ok (.aload_n 0, 1) := by decide +kernel
theorem dL_law_365 : decode cL_law 365 = .ok (.iload_n 3, 1) := by decide +kernel
theorem dL_law_366 : decode cL_law 366 = .ok (.iconst 2, 1) := by decide +kernel
theorem dL_law_367 : decode cL_law 367 = .ok (.iadd, 1) := by decide +kernel
theorem dL_law_368 : decode cL_law 368 = .ok (.iaload, 1) := by decide +kernel
theorem dL_law_369 : decode cL_law 369 = .ok (.invokevirtual 41, 3) := by decide +kernel
theorem dL_law_372 : decode cL_law 372 = .ok (.aload_n 2, 1) := by decide +kernel
theorem dL_law_373 : decode cL_law 373 = .ok (.aload_n 0, 1) := by decide +kernel
theorem dL_law_374 : decode cL_law 374 = .ok (.iload_n 3, 1) := by decide +kernel
theorem dL_law_375 : decode cL_law 375 = .ok (.iconst 1, 1) := by decide +kernel
theorem dL_law_376 : decode cL_law 376 = .ok (.iadd, 1) := by decide +kernel
theorem dL_law_377 : decode cL_law 377 = .ok (.iaload, 1) := by decide +kernel
theorem dL_law_378 : decode cL_law 378 = .ok (.aload_n 0, 1) := by decide +kernel
theorem dL_law_379 : decode cL_law 379 = .ok (.iload_n 3, 1) := by decide +kernel
theorem dL_law_380 : decode cL_law 380 = .ok (.iconst 2, 1) := by decide +kernel
theorem dL_law_381 : decode cL_law 381 = .ok (.iadd, 1) := by decide +kernel
theorem dL_law_382 : decode cL_law 382 = .ok (.iaload, 1) := by decide +kernel
theorem dL_law_383 : decode cL_law 383 = .ok (.invokevirtual 44, 3) := by decide +kernel
theorem dL_law_386 : decode cL_law 386 = .ok (.if_icmp .eq 849, 3) := by decide +kernel
theorem dL_law_389 : decode cL_law 389 = .ok (.iconst 0, 1) := by decide +kernel
theorem dL_law_390 : decode cL_law 390 = .ok (.ireturn, 1) := by decide +kernel
theorem dL_law_391 : decode cL_law 391 = .ok (.aload_n 1, 1) := by decide +kernel
theorem dL_law_392 : decode cL_law 392 = .ok (.aload_n 0, 1) := by decide +kernel
theorem dL_law_393 : decode cL_law 393 = .ok (.iload_n 3, 1) := by decide +kernel
theorem dL_law_394 : decode cL_law 394 = .ok (.iconst 1, 1) := by decide +kernel
theorem dL_law_395 : decode cL_law 395 = .ok (.iadd, 1) := by decide +kernel
theorem dL_law_396 : decode cL_law 396 = .ok (.iaload, 1) := by decide +kernel
theorem dL_law_397 : decode cL_law 397 = .ok (.aload_n 0, 1) := by decide +kernel
theorem dL_law_398 : decode cL_law 398 = .ok (.iload_n 3, 1) := by decide +kernel
theorem dL_law_399 : decode cL_law 399 = .ok (.iconst 2, 1) := by decide +kernel
theorem dL_law_400 : decode cL_law 400 = .ok (.iadd, 1) := by decide +kernel
theorem dL_law_401 : decode cL_law 401 = .ok (.iaload, 1) := by decide +kernel
theorem dL_law_402 : decode cL_law 402 = .ok (.aload_n 0, 1) := by decide +kernel
theorem dL_law_403 : decode cL_law 403 = .ok (.iload_n 3, 1) := by decide +kernel
theorem dL_law_404 : decode cL_law 404 = .ok (.iconst 3, 1) := by decide +kernel
theorem dL_law_405 : decode cL_law 405 = .ok (.iadd, 1) := by decide +kernel
theorem dL_law_406 : decode cL_law 406 = .ok (.iaload, 1) := by decide +kernel
theorem dL_law_407 : decode cL_law 407 = .ok (.ifCond .eq 7, 3) := by decide +kernel
theorem dL_law_410 : decode cL_law 410 = .ok (.iconst 1, 1) := by decide +kernel
theorem dL_law_411 : decode cL_law 411 = .ok (.goto 4, 3) := by decide +kernel
theorem dL_law_414 : decode cL_law 414 = .ok (.iconst 0, 1) := by decide +kernel
theorem dL_law_415 : decode cL_law 415 = .ok (.invokevirtual 45, 3) := by decide +kernel
theorem dL_law_418 : decode cL_law 418 = .ok (.aload_n 2, 1) := by decide +kernel
theorem dL_law_419 : decode cL_law 419 = .ok (.aload_n 0, 1) := by decide +kernel
theorem dL_law_420 : decode cL_law 420 = .ok (.iload_n 3, 1) := by decide +kernel
theorem dL_law_421 : decode cL_law 421 = .ok (.iconst 1, 1) := by decide +kernel
theorem dL_law_422 : decode cL_law 422 = .ok (.iadd, 1) := by decide +kernel
theorem dL_law_423 : decode cL_law 423 = .ok (.iaload, 1) := by decide +kernel
theorem dL_law_424 : decode cL_law 424 = .ok (.aload_n 0, 1) := by decide +kernel
theorem dL_law_425 : decode cL_law 425 = .ok (.iload_n 3, 1) := by decide +kernel
theorem dL_law_426 : decode cL_law 426 = .ok (.iconst 2, 1) := by decide +kernel
theorem dL_law_427 : decode cL_law 427 = .ok (.iadd, 1) := by decide +kernel
theorem dL_law_428 : decode cL_law 428 = .ok (.iaload, 1) := by decide +kernel
theorem dL_law_429 : decode cL_law 429 = .ok (.aload_n 0, 1) := by decide +kernel
theorem dL_law_430 : decode cL_law 430 = .ok (.iload_n 3, 1) := by decide +kernel
theorem dL_law_431 : decode cL_law 431 = .ok (.iconst 3, 1) := by decide +kernel
theorem dL_law_432 : decode cL_law 432 = .ok (.iadd, 1) := by decide +kernel
theorem dL_law_433 : decode cL_law 433 = .ok (.iaload, 1) := by decide +kernel
theorem dL_law_434 : decode cL_law 434 = .ok (.ifCond .eq 7, 3) := by decide +kernel
theorem dL_law_437 : decode cL_law 437 = .ok (.iconst 1, 1) := by decide +kernel
theorem dL_law_438 : decode cL_law 438 = .ok (.goto 4, 3) := by decide +kernel
theorem dL_law_441 : decode cL_law 441 = .ok (.iconst 0, 1) := by decide +kernel
theorem dL_law_442 : decode cL_law 442 = .ok (.invokevirtual 49, 3) := by decide +kernel
theorem dL_law_445 : decode cL_law 445 = .ok (.if_icmp .eq 790, 3) := by decide +kernel
theorem dL_law_448 : decode cL_law 448 = .ok (.iconst 0, 1) := by decide +kernel
theorem dL_law_449 : decode cL_law 449 = .ok (.ireturn, 1) := by decide +kernel
theorem dL_law_450 : decode cL_law 450 = .ok (.aload_n 1, 1) := by decide +kernel
theorem dL_law_451 : decode cL_law 451 = .ok (.aload_n 0, 1) := by decide +kernel
theorem dL_law_452 : decode cL_law 452 = .ok (.iload_n 3, 1) := by decide +kernel
theorem dL_law_453 : decode cL_law 453 = .ok (.iconst 1, 1) := by decide +kernel
theorem dL_law_454 : decode cL_law 454 = .ok (.iadd, 1) := by decide +kernel
theorem dL_law_455 : decode cL_law 455 = .ok (.iaload, 1) := by decide +kernel
theorem dL_law_456 : decode cL_law 456 = .ok (.invokevirtual 50, 3) := by decide +kernel
theorem dL_law_459 : decode cL_law 459 = .ok (.aload_n 2, 1) := by decide +kernel
theorem dL_law_460 : decode cL_law 460 = .ok (.aload_n 0, 1) := by decide +kernel
theorem dL_law_461 : decode cL_law 461 = .ok (.iload_n 3, 1) := by decide +kernel
theorem dL_law_462 : decode cL_law 462 = .ok (.iconst 1, 1) := by decide +kernel
theorem dL_law_463 : decode cL_law 463 = .ok (.iadd, 1) := by decide +kernel
theorem dL_law_464 : decode cL_law 464 = .ok (.iaload, 1) := by decide +kernel
theorem dL_law_465 : decode cL_law 465 = .ok (.invokevirtual 53, 3) := by decide +kernel
theorem dL_law_468 : decode cL_law 468 = .ok (.if_icmp .eq 767, 3) := by decide +kernel
theorem dL_law_471 : decode cL_law 471 = .ok (.iconst 0, 1) := by decide +kernel
theorem dL_law_472 : decode cL_law 472 = .ok (.ireturn, 1) := by decide +kernel
theorem dL_law_473 : decode cL_law 473 = .ok (.aload_n 1, 1) := by decide +kernel
theorem dL_law_474 : decode cL_law 474 = .ok (.aload_n 0, 1) := by decide +kernel
theorem dL_law_475 : decode cL_law 475 = .ok (.iload_n 3, 1) := by decide +kernel
theorem dL_law_476 : decode cL_law 476 = .ok (.iconst 1, 1) := by decide +kernel
theorem dL_law_477 : decode cL_law 477 = .ok (.iadd, 1) := by decide +kernel
theorem dL_law_478 : decode cL_law 478 = .ok (.iaload, 1) := by decide +kernel
theorem dL_law_479 : decode cL_law 479 = .ok (.invokevirtual 54, 3) := by decide +kernel
theorem dL_law_482 : decode cL_law 482 = .ok (.aload_n 2, 1) := by decide +kernel
theorem dL_law_483 : decode cL_law 483 = .ok (.aload_n 0, 1) := by decide +kernel
theorem dL_law_484 : decode cL_law 484 = .ok (.iload_n 3, 1) := by decide +kernel
theorem dL_law_485 : decode cL_law 485 = .ok (.iconst 1, 1) := by decide +kernel
theorem dL_law_486 : decode cL_law 486 = .ok (.iadd, 1) := by decide +kernel
theorem dL_law_487 : decode cL_law 487 = .ok (.iaload, 1) := by decide +kernel
theorem dL_law_488 : decode cL_law 488 = .ok (.invokevirtual 57, 3) := by decide +kernel
theorem dL_law_491 : decode cL_law 491 = .ok (.if_icmp .eq 744, 3) := by decide +kernel
theorem dL_law_494 : decode cL_law 494 = .ok (.iconst 0, 1) := by decide +kernel
theorem dL_law_495 : decode cL_law 495 = .ok (.ireturn, 1) := by decide +kernel
theorem dL_law_496 : decode cL_law 496 = .ok (.aload_n 1, 1) := by decide +kernel
theorem dL_law_497 : decode cL_law 497 = .ok (.aload_n 0, 1) := by decide +kernel
theorem dL_law_498 : decode cL_law 498 = .ok (.iload_n 3, 1) := by decide +kernel
theorem dL_law_499 : decode cL_law 499 = .ok (.iconst 1, 1) := by decide +kernel
theorem dL_law_500 : decode cL_law 500 = .ok (.iadd, 1) := by decide +kernel
theorem dL_law_501 : decode cL_law 501 = .ok (.iaload, 1) := by decide +kernel
theorem dL_law_502 : decode cL_law 502 = .ok (.invokevirtual 58, 3) := by decide +kernel
theorem dL_law_505 : decode cL_law 505 = .ok (.aload_n 2, 1) := by decide +kernel
theorem dL_law_506 : decode cL_law 506 = .ok (.aload_n 0, 1) := by decide +kernel
theorem dL_law_507 : decode cL_law 507 = .ok (.iload_n 3, 1) := by decide +kernel
theorem dL_law_508 : decode cL_law 508 = .ok (.iconst 1, 1) := by decide +kernel
theorem dL_law_509 : decode cL_law 509 = .ok (.iadd, 1) := by decide +kernel
theorem dL_law_510 : decode cL_law 510 = .ok (.iaload, 1) := by decide +kernel
theorem dL_law_511 : decode cL_law 511 = .ok (.invokevirtual 61, 3) := by decide +kernel
theorem dL_law_514 : decode cL_law 514 = .ok (.if_icmp .eq 721, 3) := by decide +kernel
theorem dL_law_517 : decode cL_law 517 = .ok (.iconst 0, 1) := by decide +kernel
theorem dL_law_518 : decode cL_law 518 = .ok (.ireturn, 1) := by decide +kernel
theorem dL_law_519 : decode cL_law 519 = .ok (.aload_n 1, 1) := by decide +kernel
theorem dL_law_520 : decode cL_law 520 = .ok (.aload_n 0, 1) := by decide +kernel
theorem dL_law_521 : decode cL_law 521 = .ok (.iload_n 3, 1) := by decide +kernel
theorem dL_law_522 : decode cL_law 522 = .ok (.iconst 1, 1) := by decide +kernel
theorem dL_law_523 : decode cL_law 523 = .ok (.iadd, 1) := by decide +kernel
theorem dL_law_524 : decode cL_law 524 = .ok (.iaload, 1) := by decide +kernel
theorem dL_law_525 : decode cL_law 525 = .ok (.aload_n 0, 1) := by decide +kernel
theorem dL_law_526 : decode cL_law 526 = .ok (.iload_n 3, 1) := by decide +kernel
theorem dL_law_527 : decode cL_law 527 = .ok (.iconst 2, 1) := by decide +kernel
theorem dL_law_528 : decode cL_law 528 = .ok (.iadd, 1) := by decide +kernel
theorem dL_law_529 : decode cL_law 529 = .ok (.iaload, 1) := by decide +kernel
theorem dL_law_530 : decode cL_law 530 = .ok (.invokevirtual 62, 3) := by decide +kernel
theorem dL_law_533 : decode cL_law 533 = .ok (.aload_n 2, 1) := by decide +kernel
theorem dL_law_534 : decode cL_law 534 = .ok (.aload_n 0, 1) := by decide +kernel
theorem dL_law_535 : decode cL_law 535 = .ok (.iload_n 3, 1) := by decide +kernel
theorem dL_law_536 : decode cL_law 536 = .ok (.iconst 1, 1) := by decide +kernel
theorem dL_law_537 : decode cL_law 537 = .ok (.iadd, 1) := by decide +kernel
theorem dL_law_538 : decode cL_law 538 = .ok (.iaload, 1) := by decide +kernel
theorem dL_law_539 : decode cL_law 539 = .ok (.aload_n 0, 1) := by decide +kernel
theorem dL_law_540 : decode cL_law 540 = .ok (.iload_n 3, 1) := by decide +kernel
theorem dL_law_541 : decode cL_law 541 = .ok (.iconst 2, 1) := by decide +kernel
theorem dL_law_542 : decode cL_law 542 = .ok (.iadd, 1) := by decide +kernel
theorem dL_law_543 : decode cL_law 543 = .ok (.iaload, 1) := by decide +kernel
theorem dL_law_544 : decode cL_law 544 = .ok (.invokevirtual 66, 3) := by decide +kernel
theorem dL_law_547 : decode cL_law 547 = .ok (.if_icmp .eq 688, 3) := by decide +kernel
theorem dL_law_550 : decode cL_law 550 = .ok (.iconst 0, 1) := by decide +kernel
theorem dL_law_551 : decode cL_law 551 = .ok (.ireturn, 1) := by decide +kernel
theorem dL_law_552 : decode cL_law 552 = .ok (.aload_n 1, 1) := by decide +kernel
theorem dL_law_553 : decode cL_law 553 = .ok (.aload_n 0, 1) := by decide +kernel
theorem dL_law_554 : decode cL_law 554 = .ok (.iload_n 3, 1) := by decide +kernel
theorem dL_law_555 : decode cL_law 555 = .ok (.iconst 1, 1) := by decide +kernel
theorem dL_law_556 : decode cL_law 556 = .ok (.iadd, 1) := by decide +kernel
theorem dL_law_557 : decode cL_law 557 = .ok (.iaload, 1) := by decide +kernel
theorem dL_law_558 : decode cL_law 558 = .ok (.invokevirtual 67, 3) := by decide +kernel
theorem dL_law_561 : decode cL_law 561 = .ok (.aload_n 2, 1) := by decide +kernel
theorem dL_law_562 : decode cL_law 562 = .ok (.aload_n 0, 1) := by decide +kernel
theorem dL_law_563 : decode cL_law 563 = .ok (.iload_n 3, 1) := by decide +kernel
theorem dL_law_564 : decode cL_law 564 = .ok (.iconst 1, 1) := by decide +kernel
theorem dL_law_565 : decode cL_law 565 = .ok (.iadd, 1) := by decide +kernel
theorem dL_law_566 : decode cL_law 566 = .ok (.iaload, 1) := by decide +kernel
theorem dL_law_567 : decode cL_law 567 = .ok (.invokevirtual 70, 3) := by decide +kernel
theorem dL_law_570 : decode cL_law 570 = .ok (.if_icmp .eq 665, 3) := by decide +kernel
theorem dL_law_573 : decode cL_law 573 = .ok (.iconst 0, 1) := by decide +kernel
theorem dL_law_574 : decode cL_law 574 = .ok (.ireturn, 1) := by decide +kernel
theorem dL_law_575 : decode cL_law 575 = .ok (.aload_n 1, 1) := by decide +kernel
theorem dL_law_576 : decode cL_law 576 = .ok (.invokevirtual 71, 3) := by decide +kernel
theorem dL_law_579 : decode cL_law 579 = .ok (.aload_n 2, 1) := by decide +kernel
theorem dL_law_580 : decode cL_law 580 = .ok (.invokevirtual 75, 3) := by decide +kernel
theorem dL_law_583 : decode cL_law 583 = .ok (.if_icmp .eq 652, 3) := by decide +kernel
theorem dL_law_586 : decode cL_law 586 = .ok (.iconst 0, 1) := by decide +kernel
theorem dL_law_587 : decode cL_law 587 = .ok (.ireturn, 1) := by decide +kernel
theorem dL_law_588 : decode cL_law 588 = .ok (.aload_n 1, 1) := by decide +kernel
theorem dL_law_589 : decode cL_law 589 = .ok (.aload_n 0, 1) := by decide +kernel
theorem dL_law_590 : decode cL_law 590 = .ok (.iload_n 3, 1) := by decide +kernel
theorem dL_law_591 : decode cL_law 591 = .ok (.iconst 1, 1) := by decide +kernel
theorem dL_law_592 : decode cL_law 592 = .ok (.iadd, 1) := by decide +kernel
theorem dL_law_593 : decode cL_law 593 = .ok (.iaload, 1) := by decide +kernel
theorem dL_law_594 : decode cL_law 594 = .ok (.aload_n 0, 1) := by decide +kernel
theorem dL_law_595 : decode cL_law 595 = .ok (.iload_n 3, 1) := by decide +kernel
theorem dL_law_596 : decode cL_law 596 = .ok (.iconst 2, 1) := by decide +kernel
theorem dL_law_597 : decode cL_law 597 = .ok (.iadd, 1) := by decide +kernel
theorem dL_law_598 : decode cL_law 598 = .ok (.iaload, 1) := by decide +kernel
theorem dL_law_599 : decode cL_law 599 = .ok (.invokevirtual 76, 3) := by decide +kernel
theorem dL_law_602 : decode cL_law 602 = .ok (.aload_n 2, 1) := by decide +kernel
theorem dL_law_603 : decode cL_law 603 = .ok (.aload_n 0, 1) := by decide +kernel
theorem dL_law_604 : decode cL_law 604 = .ok (.iload_n 3, 1) := by decide +kernel
theorem dL_law_605 : decode cL_law 605 = .ok (.iconst 1, 1) := by decide +kernel
theorem dL_law_606 : decode cL_law 606 = .ok (.iadd, 1) := by decide +kernel
theorem dL_law_607 : decode cL_law 607 = .ok (.iaload, 1) := by decide +kernel
theorem dL_law_608 : decode cL_law 608 = .ok (.aload_n 0, 1) := by decide +kernel
theorem dL_law_609 : decode cL_law 609 = .ok (.iload_n 3, 1) := by decide +kernel
theorem dL_law_610 : decode cL_law 610 = .ok (.iconst 2, 1) := by decide +kernel
theorem dL_law_611 : decode cL_law 611 = .ok (.iadd, 1) := by decide +kernel
theorem dL_law_612 : decode cL_law 612 = .ok (.iaload, 1) := by decide +kernel
theorem dL_law_613 : decode cL_law 613 = .ok (.invokevirtual 79, 3) := by decide +kernel
theorem dL_law_616 : decode cL_law 616 = .ok (.if_icmp .eq 619, 3) := by decide +kernel
theorem dL_law_619 : decode cL_law 619 = .ok (.iconst 0, 1) := by decide +kernel
theorem dL_law_620 : decode cL_law 620 = .ok (.ireturn, 1) := by decide +kernel
theorem dL_law_621 : decode cL_law 621 = .ok (.aload_n 1, 1) := by decide +kernel
theorem dL_law_622 : decode cL_law 622 = .ok (.aload_n 0, 1) := by decide +kernel
theorem dL_law_623 : decode cL_law 623 = .ok (.iload_n 3, 1) := by decide +kernel
theorem dL_law_624 : decode cL_law 624 = .ok (.iconst 1, 1) := by decide +kernel
theorem dL_law_625 : decode cL_law 625 = .ok (.iadd, 1) := by decide +kernel
theorem dL_law_626 : decode cL_law 626 = .ok (.iaload, 1) := by decide +kernel
theorem dL_law_627 : decode cL_law 627 = .ok (.aload_n 0, 1) := by decide +kernel
theorem dL_law_628 : decode cL_law 628 = .ok (.iload_n 3, 1) := by decide +kernel
theorem dL_law_629 : decode cL_law 629 = .ok (.iconst 2, 1) := by decide +kernel
theorem dL_law_630 : decode cL_law 630 = .ok (.iadd, 1) := by decide +kernel
theorem dL_law_631 : decode cL_law 631 = .ok (.iaload, 1) := by decide +kernel
theorem dL_law_632 : decode cL_law 632 = .ok (.invokevirtual 80, 3) := by decide +kernel
theorem dL_law_635 : decode cL_law 635 = .ok (.aload_n 2, 1) := by decide +kernel
theorem dL_law_636 : decode cL_law 636 = .ok (.aload_n 0, 1) := by decide +kernel
theorem dL_law_637 : decode cL_law 637 = .ok (.iload_n 3, 1) := by decide +kernel
theorem dL_law_638 : decode cL_law 638 = .ok (.iconst 1, 1) := by decide +kernel
theorem dL_law_639 : decode cL_law 639 = .ok (.iadd, 1) := by decide +kernel
theorem dL_law_640 : decode cL_law 640 = .ok (.iaload, 1) := by decide +kernel
theorem dL_law_641 : decode cL_law 641 = .ok (.aload_n 0, 1) := by decide +kernel
theorem dL_law_642 : decode cL_law 642 = .ok (.iload_n 3, 1) := by decide +kernel
theorem dL_law_643 : decode cL_law 643 = .ok (.iconst 2, 1) := by decide +kernel
theorem dL_law_644 : decode cL_law 644 = .ok (.iadd, 1) := by decide +kernel
theorem dL_law_645 : decode cL_law 645 = .ok (.iaload, 1) := by decide +kernel
theorem dL_law_646 : decode cL_law 646 = .ok (.invokevirtual 83, 3) := by decide +kernel
theorem dL_law_649 : decode cL_law 649 = .ok (.if_icmp .eq 586, 3) := by decide +kernel
theorem dL_law_652 : decode cL_law 652 = .ok (.iconst 0, 1) := by decide +kernel
theorem dL_law_653 : decode cL_law 653 = .ok (.ireturn, 1) := by decide +kernel
theorem dL_law_654 : decode cL_law 654 = .ok (.aload_n 1, 1) := by decide +kernel
theorem dL_law_655 : decode cL_law 655 = .ok (.aload_n 0, 1) := by decide +kernel
theorem dL_law_656 : decode cL_law 656 = .ok (.iload_n 3, 1) := by decide +kernel
theorem dL_law_657 : decode cL_law 657 = .ok (.iconst 1, 1) := by decide +kernel
theorem dL_law_658 : decode cL_law 658 = .ok (.iadd, 1) := by decide +kernel
theorem dL_law_659 : decode cL_law 659 = .ok (.iaload, 1) := by decide +kernel
theorem dL_law_660 : decode cL_law 660 = .ok (.aload_n 0, 1) := by decide +kernel
theorem dL_law_661 : decode cL_law 661 = .ok (.iload_n 3, 1) := by decide +kernel
theorem dL_law_662 : decode cL_law 662 = .ok (.iconst 2, 1) := by decide +kernel
theorem dL_law_663 : decode cL_law 663 = .ok (.iadd, 1) := by decide +kernel
theorem dL_law_664 : decode cL_law 664 = .ok (.iaload, 1) := by decide +kernel
theorem dL_law_665 : decode cL_law 665 = .ok (.invokevirtual 84, 3) := by decide +kernel
theorem dL_law_668 : decode cL_law 668 = .ok (.aload_n 2, 1) := by decide +kernel
theorem dL_law_669 : decode cL_law 669 = .ok (.aload_n 0, 1) := by decide +kernel
theorem dL_law_670 : decode cL_law 670 = .ok (.iload_n 3, 1) := by decide +kernel
theorem dL_law_671 : decode cL_law 671 = .ok (.iconst 1, 1) := by decide +kernel
theorem dL_law_672 : decode cL_law 672 = .ok (.iadd, 1) := by decide +kernel
theorem dL_law_673 : decode cL_law 673 = .ok (.iaload, 1) := by decide +kernel
theorem dL_law_674 : decode cL_law 674 = .ok (.aload_n 0, 1) := by decide +kernel
theorem dL_law_675 : decode cL_law 675 = .ok (.iload_n 3, 1) := by decide +kernel
theorem dL_law_676 : decode cL_law 676 = .ok (.iconst 2, 1) := by decide +kernel
theorem dL_law_677 : decode cL_law 677 = .ok (.iadd, 1) := by decide +kernel
theorem dL_law_678 : decode cL_law 678 = .ok (.iaload, 1) := by decide +kernel
theorem dL_law_679 : decode cL_law 679 = .ok (.invokevirtual 87, 3) := by decide +kernel
theorem dL_law_682 : decode cL_law 682 = .ok (.if_icmp .eq 553, 3) := by decide +kernel
theorem dL_law_685 : decode cL_law 685 = .ok (.iconst 0, 1) := by decide +kernel
theorem dL_law_686 : decode cL_law 686 = .ok (.ireturn, 1) := by decide +kernel
theorem dL_law_687 : decode cL_law 687 = .ok (.aload_n 1, 1) := by decide +kernel
theorem dL_law_688 : decode cL_law 688 = .ok (.aload_n 0, 1) := by decide +kernel
theorem dL_law_689 : decode cL_law 689 = .ok (.iload_n 3, 1) := by decide +kernel
theorem dL_law_690 : decode cL_law 690 = .ok (.iconst 1, 1) := by decide +kernel
theorem dL_law_691 : decode cL_law 691 = .ok (.iadd, 1) := by decide +kernel
theorem dL_law_692 : decode cL_law 692 = .ok (.iaload, 1) := by decide +kernel
theorem dL_law_693 : decode cL_law 693 = .ok (.aload_n 0, 1) := by decide +kernel
theorem dL_law_694 : decode cL_law 694 = .ok (.iload_n 3, 1) := by decide +kernel
theorem dL_law_695 : decode cL_law 695 = .ok (.iconst 2, 1) := by decide +kernel
theorem dL_law_696 : decode cL_law 696 = .ok (.iadd, 1) := by decide +kernel
theorem dL_law_697 : decode cL_law 697 = .ok (.iaload, 1) := by decide +kernel
theorem dL_law_698 : decode cL_law 698 = .ok (.invokevirtual 88, 3) := by decide +kernel
theorem dL_law_701 : decode cL_law 701 = .ok (.aload_n 2, 1) := by decide +kernel
theorem dL_law_702 : decode cL_law 702 = .ok (.aload_n 0, 1) := by decide +kernel
theorem dL_law_703 : decode cL_law 703 = .ok (.iload_n 3, 1) := by decide +kernel
theorem dL_law_704 : decode cL_law 704 = .ok (.iconst 1, 1) := by decide +kernel
theorem dL_law_705 : decode cL_law 705 = .ok (.iadd, 1) := by decide +kernel
theorem dL_law_706 : decode cL_law 706 = .ok (.iaload, 1) := by decide +kernel
theorem dL_law_707 : decode cL_law 707 = .ok (.aload_n 0, 1) := by decide +kernel
theorem dL_law_708 : decode cL_law 708 = .ok (.iload_n 3, 1) := by decide +kernel
theorem dL_law_709 : decode cL_law 709 = .ok (.iconst 2, 1) := by decide +kernel
theorem dL_law_710 : decode cL_law 710 = .ok (.iadd, 1) := by decide +kernel
theorem dL_law_711 : decode cL_law 711 = .ok (.iaload, 1) := by decide +kernel
theorem dL_law_712 : decode cL_law 712 = .ok (.invokevirtual 91, 3) := by decide +kernel
theorem dL_law_715 : decode cL_law 715 = .ok (.if_icmp .eq 520, 3) := by decide +kernel
theorem dL_law_718 : decode cL_law 718 = .ok (.iconst 0, 1) := by decide +kernel
theorem dL_law_719 : decode cL_law 719 = .ok (.ireturn, 1) := by decide +kernel
theorem dL_law_720 : decode cL_law 720 = .ok (.aload_n 1, 1) := by decide +kernel
theorem dL_law_721 : decode cL_law 721 = .ok (.aload_n 0, 1) := by decide +kernel
theorem dL_law_722 : decode cL_law 722 = .ok (.iload_n 3, 1) := by decide +kernel
theorem dL_law_723 : decode cL_law 723 = .ok (.iconst 1, 1) := by decide +kernel
theorem dL_law_724 : decode cL_law 724 = .ok (.iadd, 1) := by decide +kernel
theorem dL_law_725 : decode cL_law 725 = .ok (.iaload, 1) := by decide +kernel
theorem dL_law_726 : decode cL_law 726 = .ok (.aload_n 0, 1) := by decide +kernel
theorem dL_law_727 : decode cL_law 727 = .ok (.iload_n 3, 1) := by decide +kernel
theorem dL_law_728 : decode cL_law 728 = .ok (.iconst 2, 1) := by decide +kernel
theorem dL_law_729 : decode cL_law 729 = .ok (.iadd, 1) := by decide +kernel
theorem dL_law_730 : decode cL_law 730 = .ok (.iaload, 1) := by decide +kernel
theorem dL_law_731 : decode cL_law 731 = .ok (.invokevirtual 92, 3) := by decide +kernel
theorem dL_law_734 : decode cL_law 734 = .ok (.aload_n 2, 1) := by decide +kernel
theorem dL_law_735 : decode cL_law 735 = .ok (.aload_n 0, 1) := by decide +kernel
theorem dL_law_736 : decode cL_law 736 = .ok (.iload_n 3, 1) := by decide +kernel
theorem dL_law_737 : decode cL_law 737 = .ok (.iconst 1, 1) := by decide +kernel
theorem dL_law_738 : decode cL_law 738 = .ok (.iadd, 1) := by decide +kernel
theorem dL_law_739 : decode cL_law 739 = .ok (.iaload, 1) := by decide +kernel
theorem dL_law_740 : decode cL_law 740 = .ok (.aload_n 0, 1) := by decide +kernel
theorem dL_law_741 : decode cL_law 741 = .ok (.iload_n 3, 1) := by decide +kernel
theorem dL_law_742 : decode cL_law 742 = .ok (.iconst 2, 1) := by decide +kernel
theorem dL_law_743 : decode cL_law 743 = .ok (.iadd, 1) := by decide +kernel
theorem dL_law_744 : decode cL_law 744 = .ok (.iaload, 1) := by decide +kernel
theorem dL_law_745 : decode cL_law 745 = .ok (.invokevirtual 95, 3) := by decide +kernel
theorem dL_law_748 : decode cL_law 748 = .ok (.if_icmp .eq 487, 3) := by decide +kernel
theorem dL_law_751 : decode cL_law 751 = .ok (.iconst 0, 1) := by decide +kernel
theorem dL_law_752 : decode cL_law 752 = .ok (.ireturn, 1) := by decide +kernel
theorem dL_law_753 : decode cL_law 753 = .ok (.aload_n 1, 1) := by decide +kernel
theorem dL_law_754 : decode cL_law 754 = .ok (.aload_n 0, 1) := by decide +kernel
theorem dL_law_755 : decode cL_law 755 = .ok (.iload_n 3, 1) := by decide +kernel
theorem dL_law_756 : decode cL_law 756 = .ok (.iconst 1, 1) := by decide +kernel
theorem dL_law_757 : decode cL_law 757 = .ok (.iadd, 1) := by decide +kernel
theorem dL_law_758 : decode cL_law 758 = .ok (.iaload, 1) := by decide +kernel
theorem dL_law_759 : decode cL_law 759 = .ok (.aload_n 0, 1) := by decide +kernel
theorem dL_law_760 : decode cL_law 760 = .ok (.iload_n 3, 1) := by decide +kernel
theorem dL_law_761 : decode cL_law 761 = .ok (.iconst 2, 1) := by decide +kernel
theorem dL_law_762 : decode cL_law 762 = .ok (.iadd, 1) := by decide +kernel
theorem dL_law_763 : decode cL_law 763 = .ok (.iaload, 1) := by decide +kernel
theorem dL_law_764 : decode cL_law 764 = .ok (.aload_n 0, 1) := by decide +kernel
theorem dL_law_765 : decode cL_law 765 = .ok (.iload_n 3, 1) := by decide +kernel
theorem dL_law_766 : decode cL_law 766 = .ok (.iconst 3, 1) := by decide +kernel
theorem dL_law_767 : decode cL_law 767 = .ok (.iadd, 1) := by decide +kernel
theorem dL_law_768 : decode cL_law 768 = .ok (.iaload, 1) := by decide +kernel
theorem dL_law_769 : decode cL_law 769 = .ok (.invokevirtual 96, 3) := by decide +kernel
theorem dL_law_772 : decode cL_law 772 = .ok (.aload_n 2, 1) := by decide +kernel
theorem dL_law_773 : decode cL_law 773 = .ok (.aload_n 0, 1) := by decide +kernel
theorem dL_law_774 : decode cL_law 774 = .ok (.iload_n 3, 1) := by decide +kernel
theorem dL_law_775 : decode cL_law 775 = .ok (.iconst 1, 1) := by decide +kernel
theorem dL_law_776 : decode cL_law 776 = .ok (.iadd, 1) := by decide +kernel
theorem dL_law_777 : decode cL_law 777 = .ok (.iaload, 1) := by decide +kernel
theorem dL_law_778 : decode cL_law 778 = .ok (.aload_n 0, 1) := by decide +kernel
theorem dL_law_779 : decode cL_law 779 = .ok (.iload_n 3, 1) := by decide +kernel
theorem dL_law_780 : decode cL_law 780 = .ok (.iconst 2, 1) := by decide +kernel
theorem dL_law_781 : decode cL_law 781 = .ok (.iadd, 1) := by decide +kernel
theorem dL_law_782 : decode cL_law 782 = .ok (.iaload, 1) := by decide +kernel
theorem dL_law_783 : decode cL_law 783 = .ok (.aload_n 0, 1) := by decide +kernel
theorem dL_law_784 : decode cL_law 784 = .ok (.iload_n 3, 1) := by decide +kernel
theorem dL_law_785 : decode cL_law 785 = .ok (.iconst 3, 1) := by decide +kernel
theorem dL_law_786 : decode cL_law 786 = .ok (.iadd, 1) := by decide +kernel
theorem dL_law_787 : decode cL_law 787 = .ok (.iaload, 1) := by decide +kernel
theorem dL_law_788 : decode cL_law 788 = .ok (.invokevirtual 100, 3) := by decide +kernel
theorem dL_law_791 : decode cL_law 791 = .ok (.if_icmp .eq 444, 3) := by decide +kernel
theorem dL_law_794 : decode cL_law 794 = .ok (.iconst 0, 1) := by decide +kernel
theorem dL_law_795 : decode cL_law 795 = .ok (.ireturn, 1) := by decide +kernel
theorem dL_law_796 : decode cL_law 796 = .ok (.aload_n 1, 1) := by decide +kernel
theorem dL_law_797 : decode cL_law 797 = .ok (.aload_n 0, 1) := by decide +kernel
theorem dL_law_798 : decode cL_law 798 = .ok (.iload_n 3, 1) := by decide +kernel
theorem dL_law_799 : decode cL_law 799 = .ok (.iconst 1, 1) := by decide +kernel
theorem dL_law_800 : decode cL_law 800 = .ok (.iadd, 1) := by decide +kernel
theorem dL_law_801 : decode cL_law 801 = .ok (.iaload, 1) := by decide +kernel
theorem dL_law_802 : decode cL_law 802 = .ok (.invokevirtual 101, 3) := by decide +kernel
theorem dL_law_805 : decode cL_law 805 = .ok (.aload_n 2, 1) := by decide +kernel
theorem dL_law_806 : decode cL_law 806 = .ok (.aload_n 0, 1) := by decide +kernel
theorem dL_law_807 : decode cL_law 807 = .ok (.iload_n 3, 1) := by decide +kernel
theorem dL_law_808 : decode cL_law 808 = .ok (.iconst 1, 1) := by decide +kernel
theorem dL_law_809 : decode cL_law 809 = .ok (.iadd, 1) := by decide +kernel
theorem dL_law_810 : decode cL_law 810 = .ok (.iaload, 1) := by decide +kernel
theorem dL_law_811 : decode cL_law 811 = .ok (.invokevirtual 104, 3) := by decide +kernel
theorem dL_law_814 : decode cL_law 814 = .ok (.if_icmp .eq 421, 3) := by decide +kernel
theorem dL_law_817 : decode cL_law 817 = .ok (.iconst 0, 1) := by decide +kernel
theorem dL_law_818 : decode cL_law 818 = .ok (.ireturn, 1) := by decide +kernel
theorem dL_law_819 : decode cL_law 819 = .ok (.aload_n 1, 1) := by decide +kernel
theorem dL_law_820 : decode cL_law 820 = .ok (.aload_n 0, 1) := by decide +kernel
theorem dL_law_821 : decode cL_law 821 = .ok (.iload_n 3, 1) := by decide +kernel
theorem dL_law_822 : decode cL_law 822 = .ok (.iconst 1, 1) := by decide +kernel
theorem dL_law_823 : decode cL_law 823 = .ok (.iadd, 1) := by decide +kernel
theorem dL_law_824 : decode cL_law 824 = .ok (.iaload, 1) := by decide +kernel
theorem dL_law_825 : decode cL_law 825 = .ok (.aload_n 0, 1) := by decide +kernel
theorem dL_law_826 : decode cL_law 826 = .ok (.iload_n 3, 1) := by decide +kernel
theorem dL_law_827 : decode cL_law 827 = .ok (.iconst 2, 1) := by decide +kernel
theorem dL_law_828 : decode cL_law 828 = .ok (.iadd, 1) := by decide +kernel
theorem dL_law_829 : decode cL_law 829 = .ok (.iaload, 1) := by decide +kernel
theorem dL_law_830 : decode cL_law 830 = .ok (.invokevirtual 105, 3) := by decide +kernel
theorem dL_law_833 : decode cL_law 833 = .ok (.aload_n 2, 1) := by decide +kernel
theorem dL_law_834 : decode cL_law 834 = .ok (.aload_n 0, 1) := by decide +kernel
theorem dL_law_835 : decode cL_law 835 = .ok (.iload_n 3, 1) := by decide +kernel
theorem dL_law_836 : decode cL_law 836 = .ok (.iconst 1, 1) := by decide +kernel
theorem dL_law_837 : decode cL_law 837 = .ok (.iadd, 1) := by decide +kernel
theorem dL_law_838 : decode cL_law 838 = .ok (.iaload, 1) := by decide +kernel
theorem dL_law_839 : decode cL_law 839 = .ok (.aload_n 0, 1) := by decide +kernel
theorem dL_law_840 : decode cL_law 840 = .ok (.iload_n 3, 1) := by decide +kernel
theorem dL_law_841 : decode cL_law 841 = .ok (.iconst 2, 1) := by decide +kernel
theorem dL_law_842 : decode cL_law 842 = .ok (.iadd, 1) := by decide +kernel
theorem dL_law_843 : decode cL_law 843 = .ok (.iaload, 1) := by decide +kernel
theorem dL_law_844 : decode cL_law 844 = .ok (.invokevirtual 108, 3) := by decide +kernel
theorem dL_law_847 : decode cL_law 847 = .ok (.if_icmp .eq 388, 3) := by decide +kernel
theorem dL_law_850 : decode cL_law 850 = .ok (.iconst 0, 1) := by decide +kernel
theorem dL_law_851 : decode cL_law 851 = .ok (.ireturn, 1) := by decide +kernel
theorem dL_law_852 : decode cL_law 852 = .ok (.aload_n 1, 1) := by decide +kernel
theorem dL_law_853 : decode cL_law 853 = .ok (.aload_n 0, 1) := by decide +kernel
theorem dL_law_854 : decode cL_law 854 = .ok (.iload_n 3, 1) := by decide +kernel
theorem dL_law_855 : decode cL_law 855 = .ok (.iconst 1, 1) := by decide +kernel
theorem dL_law_856 : decode cL_law 856 = .ok (.iadd, 1) := by decide +kernel
theorem dL_law_857 : decode cL_law 857 = .ok (.iaload, 1) := by decide +kernel
theorem dL_law_858 : decode cL_law 858 = .ok (.invokevirtual 109, 3) := by decide +kernel
theorem dL_law_861 : decode cL_law 861 = .ok (.aload_n 2, 1) := by decide +kernel
theorem dL_law_862 : decode cL_law 862 = .ok (.aload_n 0, 1) := by decide +kernel
theorem dL_law_863 : decode cL_law 863 = .ok (.iload_n 3, 1) := by decide +kernel
theorem dL_law_864 : decode cL_law 864 = .ok (.iconst 1, 1) := by decide +kernel
theorem dL_law_865 : decode cL_law 865 = .ok (.iadd, 1) := by decide +kernel
theorem dL_law_866 : decode cL_law 866 = .ok (.iaload, 1) := by decide +kernel
theorem dL_law_867 : decode cL_law 867 = .ok (.invokevirtual 112, 3) := by decide +kernel
theorem dL_law_870 : decode cL_law 870 = .ok (.if_icmp .eq 365, 3) := by decide +kernel
theorem dL_law_873 : decode cL_law 873 = .ok (.iconst 0, 1) := by decide +kernel
theorem dL_law_874 : decode cL_law 874 = .ok (.ireturn, 1) := by decide +kernel
theorem dL_law_875 : decode cL_law 875 = .ok (.aload_n 1, 1) := by decide +kernel
theorem dL_law_876 : decode cL_law 876 = .ok (.aload_n 0, 1) := by decide +kernel
theorem dL_law_877 : decode cL_law 877 = .ok (.iload_n 3, 1) := by decide +kernel
theorem dL_law_878 : decode cL_law 878 = .ok (.iconst 1, 1) := by decide +kernel
theorem dL_law_879 : decode cL_law 879 = .ok (.iadd, 1) := by decide +kernel
theorem dL_law_880 : decode cL_law 880 = .ok (.iaload, 1) := by decide +kernel
theorem dL_law_881 : decode cL_law 881 = .ok (.aload_n 0, 1) := by decide +kernel
theorem dL_law_882 : decode cL_law 882 = .ok (.iload_n 3, 1) := by decide +kernel
theorem dL_law_883 : decode cL_law 883 = .ok (.iconst 2, 1) := by decide +kernel
theorem dL_law_884 : decode cL_law 884 = .ok (.iadd, 1) := by decide +kernel
theorem dL_law_885 : decode cL_law 885 = .ok (.iaload, 1) := by decide +kernel
theorem dL_law_886 : decode cL_law 886 = .ok (.aload_n 0, 1) := by decide +kernel
theorem dL_law_887 : decode cL_law 887 = .ok (.iload_n 3, 1) := by decide +kernel
theorem dL_law_888 : decode cL_law 888 = .ok (.iconst 3, 1) := by decide +kernel
theorem dL_law_889 : decode cL_law 889 = .ok (.iadd, 1) := by decide +kernel
theorem dL_law_890 : decode cL_law 890 = .ok (.iaload, 1) := by decide +kernel
theorem dL_law_891 : decode cL_law 891 = .ok (.aload_n 0, 1) := by decide +kernel
theorem dL_law_892 : decode cL_law 892 = .ok (.iload_n 3, 1) := by decide +kernel
theorem dL_law_893 : decode cL_law 893 = .ok (.iconst 4, 1) := by decide +kernel
theorem dL_law_894 : decode cL_law 894 = .ok (.iadd, 1) := by decide +kernel
theorem dL_law_895 : decode cL_law 895 = .ok (.iaload, 1) := by decide +kernel
theorem dL_law_896 : decode cL_law 896 = .ok (.aload_n 0, 1) := by decide +kernel
theorem dL_law_897 : decode cL_law 897 = .ok (.iload_n 3, 1) := by decide +kernel
theorem dL_law_898 : decode cL_law 898 = .ok (.iconst 5, 1) := by decide +kernel
theorem dL_law_899 : decode cL_law 899 = .ok (.iadd, 1) := by decide +kernel
theorem dL_law_900 : decode cL_law 900 = .ok (.iaload, 1) := by decide +kernel
theorem dL_law_901 : decode cL_law 901 = .ok (.invokevirtual 113, 3) := by decide +kernel
theorem dL_law_904 : decode cL_law 904 = .ok (.aload_n 2, 1) := by decide +kernel
theorem dL_law_905 : decode cL_law 905 = .ok (.aload_n 0, 1) := by decide +kernel
theorem dL_law_906 : decode cL_law 906 = .ok (.iload_n 3, 1) := by decide +kernel
theorem dL_law_907 : decode cL_law 907 = .ok (.iconst 1, 1) := by decide +kernel
theorem dL_law_908 : decode cL_law 908 = .ok (.iadd, 1) := by decide +kernel
theorem dL_law_909 : decode cL_law 909 = .ok (.iaload, 1) := by decide +kernel
theorem dL_law_910 : decode cL_law 910 = .ok (.aload_n 0, 1) := by decide +kernel
theorem dL_law_911 : decode cL_law 911 = .ok (.iload_n 3, 1) := by decide +kernel
theorem dL_law_912 : decode cL_law 912 = .ok (.iconst 2, 1) := by decide +kernel
theorem dL_law_913 : decode cL_law 913 = .ok (.iadd, 1) := by decide +kernel
theorem dL_law_914 : decode cL_law 914 = .ok (.iaload, 1) := by decide +kernel
theorem dL_law_915 : decode cL_law 915 = .ok (.aload_n 0, 1) := by decide +kernel
theorem dL_law_916 : decode cL_law 916 = .ok (.iload_n 3, 1) := by decide +kernel
theorem dL_law_917 : decode cL_law 917 = .ok (.iconst 3, 1) := by decide +kernel
theorem dL_law_918 : decode cL_law 918 = .ok (.iadd, 1) := by decide +kernel
theorem dL_law_919 : decode cL_law 919 = .ok (.iaload, 1) := by decide +kernel
theorem dL_law_920 : decode cL_law 920 = .ok (.aload_n 0, 1) := by decide +kernel
theorem dL_law_921 : decode cL_law 921 = .ok (.iload_n 3, 1) := by decide +kernel
theorem dL_law_922 : decode cL_law 922 = .ok (.iconst 4, 1) := by decide +kernel
theorem dL_law_923 : decode cL_law 923 = .ok (.iadd, 1) := by decide +kernel
theorem dL_law_924 : decode cL_law 924 = .ok (.iaload, 1) := by decide +kernel
theorem dL_law_925 : decode cL_law 925 = .ok (.aload_n 0, 1) := by decide +kernel
theorem dL_law_926 : decode cL_law 926 = .ok (.iload_n 3, 1) := by decide +kernel
theorem dL_law_927 : decode cL_law 927 = .ok (.iconst 5, 1) := by decide +kernel
theorem dL_law_928 : decode cL_law 928 = .ok (.iadd, 1) := by decide +kernel
theorem dL_law_929 : decode cL_law 929 = .ok (.iaload, 1) := by decide +kernel
theorem dL_law_930 : decode cL_law 930 = .ok (.invokevirtual 116, 3) := by decide +kernel
theorem dL_law_933 : decode cL_law 933 = .ok (.if_icmp .eq 302, 3) := by decide +kernel
theorem dL_law_936 : decode cL_law 936 = .ok (.iconst 0, 1) := by decide +kernel
theorem dL_law_937 : decode cL_law 937 = .ok (.ireturn, 1) := by decide +kernel
theorem dL_law_938 : decode cL_law 938 = .ok (.aload_n 1, 1) := by decide +kernel
theorem dL_law_939 : decode cL_law 939 = .ok (.aload_n 0, 1) := by decide +kernel
theorem dL_law_940 : decode cL_law 940 = .ok (.iload_n 3, 1) := by decide +kernel
theorem dL_law_941 : decode cL_law 941 = .ok (.iconst 1, 1) := by decide +kernel
theorem dL_law_942 : decode cL_law 942 = .ok (.iadd, 1) := by decide +kernel
theorem dL_law_943 : decode cL_law 943 = .ok (.iaload, 1) := by decide +kernel
theorem dL_law_944 : decode cL_law 944 = .ok (.aload_n 0, 1) := by decide +kernel
theorem dL_law_945 : decode cL_law 945 = .ok (.iload_n 3, 1) := by decide +kernel
theorem dL_law_946 : decode cL_law 946 = .ok (.iconst 2, 1) := by decide +kernel
theorem dL_law_947 : decode cL_law 947 = .ok (.iadd, 1) := by decide +kernel
theorem dL_law_948 : decode cL_law 948 = .ok (.iaload, 1) := by decide +kernel
theorem dL_law_949 : decode cL_law 949 = .ok (.aload_n 0, 1) := by decide +kernel
theorem dL_law_950 : decode cL_law 950 = .ok (.iload_n 3, 1) := by decide +kernel
theorem dL_law_951 : decode cL_law 951 = .ok (.iconst 3, 1) := by decide +kernel
theorem dL_law_952 : decode cL_law 952 = .ok (.iadd, 1) := by decide +kernel
theorem dL_law_953 : decode cL_law 953 = .ok (.iaload, 1) := by decide +kernel
theorem dL_law_954 : decode cL_law 954 = .ok (.invokevirtual 117, 3) := by decide +kernel
theorem dL_law_957 : decode cL_law 957 = .ok (.aload_n 2, 1) := by decide +kernel
theorem dL_law_958 : decode cL_law 958 = .ok (.aload_n 0, 1) := by decide +kernel
theorem dL_law_959 : decode cL_law 959 = .ok (.iload_n 3, 1) := by decide +kernel
theorem dL_law_960 : decode cL_law 960 = .ok (.iconst 1, 1) := by decide +kernel
theorem dL_law_961 : decode cL_law 961 = .ok (.iadd, 1) := by decide +kernel
theorem dL_law_962 : decode cL_law 962 = .ok (.iaload, 1) := by decide +kernel
theorem dL_law_963 : decode cL_law 963 = .ok (.aload_n 0, 1) := by decide +kernel
theorem dL_law_964 : decode cL_law 964 = .ok (.iload_n 3, 1) := by decide +kernel
theorem dL_law_965 : decode cL_law 965 = .ok (.iconst 2, 1) := by decide +kernel
theorem dL_law_966 : decode cL_law 966 = .ok (.iadd, 1) := by decide +kernel
theorem dL_law_967 : decode cL_law 967 = .ok (.iaload, 1) := by decide +kernel
theorem dL_law_968 : decode cL_law 968 = .ok (.aload_n 0, 1) := by decide +kernel
theorem dL_law_969 : decode cL_law 969 = .ok (.iload_n 3, 1) := by decide +kernel
theorem dL_law_970 : decode cL_law 970 = .ok (.iconst 3, 1) := by decide +kernel
theorem dL_law_971 : decode cL_law 971 = .ok (.iadd, 1) := by decide +kernel
theorem dL_law_972 : decode cL_law 972 = .ok (.iaload, 1) := by decide +kernel
theorem dL_law_973 : decode cL_law 973 = .ok (.invokevirtual 120, 3) := by decide +kernel
theorem dL_law_976 : decode cL_law 976 = .ok (.if_icmp .eq 259, 3) := by decide +kernel
theorem dL_law_979 : decode cL_law 979 = .ok (.iconst 0, 1) := by decide +kernel
theorem dL_law_980 : decode cL_law 980 = .ok (.ireturn, 1) := by decide +kernel
theorem dL_law_981 : decode cL_law 981 = .ok (.aload_n 1, 1) := by decide +kernel
theorem dL_law_982 : decode cL_law 982 = .ok (.aload_n 0, 1) := by decide +kernel
theorem dL_law_983 : decode cL_law 983 = .ok (.iload_n 3, 1) := by decide +kernel
theorem dL_law_984 : decode cL_law 984 = .ok (.iconst 1, 1) := by decide +kernel
theorem dL_law_985 : decode cL_law 985 = .ok (.iadd, 1) := by decide +kernel
theorem dL_law_986 : decode cL_law 986 = .ok (.iaload, 1) := by decide +kernel
theorem dL_law_987 : decode cL_law 987 = .ok (.aload_n 0, 1) := by decide +kernel
theorem dL_law_988 : decode cL_law 988 = .ok (.iload_n 3, 1) := by decide +kernel
theorem dL_law_989 : decode cL_law 989 = .ok (.iconst 2, 1) := by decide +kernel
theorem dL_law_990 : decode cL_law 990 = .ok (.iadd, 1) := by decide +kernel
theorem dL_law_991 : decode cL_law 991 = .ok (.iaload, 1) := by decide +kernel
theorem dL_law_992 : decode cL_law 992 = .ok (.aload_n 0, 1) := by decide +kernel
theorem dL_law_993 : decode cL_law 993 = .ok (.iload_n 3, 1) := by decide +kernel
theorem dL_law_994 : decode cL_law 994 = .ok (.iconst 3, 1) := by decide +kernel
theorem dL_law_995 : decode cL_law 995 = .ok (.iadd, 1) := by decide +kernel
theorem dL_law_996 : decode cL_law 996 = .ok (.iaload, 1) := by decide +kernel
theorem dL_law_997 : decode cL_law 997 = .ok (.aload_n 0, 1) := by decide +kernel
theorem dL_law_998 : decode cL_law 998 = .ok (.iload_n 3, 1) := by decide +kernel
theorem dL_law_999 : decode cL_law 999 = .ok (.iconst 4, 1) := by decide +kernel
theorem dL_law_1000 : decode cL_law 1000 = .ok (.iadd, 1) := by decide +kernel
theorem dL_law_1001 : decode cL_law 1001 = .ok (.iaload, 1) := by decide +kernel
theorem dL_law_1002 : decode cL_law 1002 = .ok (.invokevirtual 121, 3) := by decide +kernel
theorem dL_law_1005 : decode cL_law 1005 = .ok (.aload_n 2, 1) := by decide +kernel
theorem dL_law_1006 : decode cL_law 1006 = .ok (.aload_n 0, 1) := by decide +kernel
theorem dL_law_1007 : decode cL_law 1007 = .ok (.iload_n 3, 1) := by decide +kernel
theorem dL_law_1008 : decode cL_law 1008 = .ok (.iconst 1, 1) := by decide +kernel
theorem dL_law_1009 : decode cL_law 1009 = .ok (.iadd, 1) := by decide +kernel
theorem dL_law_1010 : decode cL_law 1010 = .ok (.iaload, 1) := by decide +kernel
theorem dL_law_1011 : decode cL_law 1011 = .ok (.aload_n 0, 1) := by decide +kernel
theorem dL_law_1012 : decode cL_law 1012 = .ok (.iload_n 3, 1) := by decide +kernel
theorem dL_law_1013 : decode cL_law 1013 = .ok (.iconst 2, 1) := by decide +kernel
theorem dL_law_1014 : decode cL_law 1014 = .ok (.iadd, 1) := by decide +kernel
theorem dL_law_1015 : decode cL_law 1015 = .ok (.iaload, 1) := by decide +kernel
theorem dL_law_1016 : decode cL_law 1016 = .ok (.aload_n 0, 1) := by decide +kernel
theorem dL_law_1017 : decode cL_law 1017 = .ok (.iload_n 3, 1) := by decide +kernel
theorem dL_law_1018 : decode cL_law 1018 = .ok (.iconst 3, 1) := by decide +kernel
theorem dL_law_1019 : decode cL_law 1019 = .ok (.iadd, 1) := by decide +kernel
theorem dL_law_1020 : decode cL_law 1020 = .ok (.iaload, 1) := by decide +kernel
theorem dL_law_1021 : decode cL_law 1021 = .ok (.aload_n 0, 1) := by decide +kernel
theorem dL_law_1022 : decode cL_law 1022 = .ok (.iload_n 3, 1) := by decide +kernel
theorem dL_law_1023 : decode cL_law 1023 = .ok (.iconst 4, 1) := by decide +kernel
theorem dL_law_1024 : decode cL_law 1024 = .ok (.iadd, 1) := by decide +kernel
theorem dL_law_1025 : decode cL_law 1025 = .ok (.iaload, 1) := by decide +kernel
theorem dL_law_1026 : decode cL_law 1026 = .ok (.invokevirtual 125, 3) := by decide +kernel
theorem dL_law_1029 : decode cL_law 1029 = .ok (.if_icmp .eq 206, 3) := by decide +kernel
theorem dL_law_1032 : decode cL_law 1032 = .ok (.iconst 0, 1) := by decide +kernel
theorem dL_law_1033 : decode cL_law 1033 = .ok (.ireturn, 1) := by decide +kernel
theorem dL_law_1034 : decode cL_law 1034 = .ok (.aload_n 1, 1) := by decide +kernel
theorem dL_law_1035 : decode cL_law 1035 = .ok (.aload_n 0, 1) := by decide +kernel
theorem dL_law_1036 : decode cL_law 1036 = .ok (.iload_n 3, 1) := by decide +kernel
theorem dL_law_1037 : decode cL_law 1037 = .ok (.iconst 1, 1) := by decide +kernel
theorem dL_law_1038 : decode cL_law 1038 = .ok (.iadd, 1) := by decide +kernel
theorem dL_law_1039 : decode cL_law 1039 = .ok (.iaload, 1) := by decide +kernel
theorem dL_law_1040 : decode cL_law 1040 = .ok (.aload_n 0, 1) := by decide +kernel
theorem dL_law_1041 : decode cL_law 1041 = .ok (.iload_n 3, 1) := by decide +kernel
theorem dL_law_1042 : decode cL_law 1042 = .ok (.iconst 2, 1) := by decide +kernel
theorem dL_law_1043 : decode cL_law 1043 = .ok (.iadd, 1) := by decide +kernel
theorem dL_law_1044 : decode cL_law 1044 = .ok (.iaload, 1) := by decide +kernel
theorem dL_law_1045 : decode cL_law 1045 = .ok (.aload_n 0, 1) := by decide +kernel
theorem dL_law_1046 : decode cL_law 1046 = .ok (.iload_n 3, 1) := by decide +kernel
theorem dL_law_1047 : decode cL_law 1047 = .ok (.iconst 3, 1) := by decide +kernel
theorem dL_law_1048 : decode cL_law 1048 = .ok (.iadd, 1) := by decide +kernel
theorem dL_law_1049 : decode cL_law 1049 = .ok (.iaload, 1) := by decide +kernel
theorem dL_law_1050 : decode cL_law 1050 = .ok (.invokevirtual 126, 3) := by decide +kernel
theorem dL_law_1053 : decode cL_law 1053 = .ok (.aload_n 2, 1) := by decide +kernel
theorem dL_law_1054 : decode cL_law 1054 = .ok (.aload_n 0, 1) := by decide +kernel
theorem dL_law_1055 : decode cL_law 1055 = .ok (.iload_n 3, 1) := by decide +kernel
theorem dL_law_1056 : decode cL_law 1056 = .ok (.iconst 1, 1) := by decide +kernel
theorem dL_law_1057 : decode cL_law 1057 = .ok (.iadd, 1) := by decide +kernel
theorem dL_law_1058 : decode cL_law 1058 = .ok (.iaload, 1) := by decide +kernel
theorem dL_law_1059 : decode cL_law 1059 = .ok (.aload_n 0, 1) := by decide +kernel
theorem dL_law_1060 : decode cL_law 1060 = .ok (.iload_n 3, 1) := by decide +kernel
theorem dL_law_1061 : decode cL_law 1061 = .ok (.iconst 2, 1) := by decide +kernel
theorem dL_law_1062 : decode cL_law 1062 = .ok (.iadd, 1) := by decide +kernel
theorem dL_law_1063 : decode cL_law 1063 = .ok (.iaload, 1) := by decide +kernel
theorem dL_law_1064 : decode cL_law 1064 = .ok (.aload_n 0, 1) := by decide +kernel
theorem dL_law_1065 : decode cL_law 1065 = .ok (.iload_n 3, 1) := by decide +kernel
theorem dL_law_1066 : decode cL_law 1066 = .ok (.iconst 3, 1) := by decide +kernel
theorem dL_law_1067 : decode cL_law 1067 = .ok (.iadd, 1) := by decide +kernel
theorem dL_law_1068 : decode cL_law 1068 = .ok (.iaload, 1) := by decide +kernel
theorem dL_law_1069 : decode cL_law 1069 = .ok (.invokevirtual 129, 3) := by decide +kernel
theorem dL_law_1072 : decode cL_law 1072 = .ok (.if_icmp .eq 163, 3) := by decide +kernel
theorem dL_law_1075 : decode cL_law 1075 = .ok (.iconst 0, 1) := by decide +kernel
theorem dL_law_1076 : decode cL_law 1076 = .ok (.ireturn, 1) := by decide +kernel
theorem dL_law_1077 : decode cL_law 1077 = .ok (.aload_n 1, 1) := by decide +kernel
theorem dL_law_1078 : decode cL_law 1078 = .ok (.aload_n 0, 1) := by decide +kernel
theorem dL_law_1079 : decode cL_law 1079 = .ok (.iload_n 3, 1) := by decide +kernel
theorem dL_law_1080 : decode cL_law 1080 = .ok (.iconst 1, 1) := by decide +kernel
theorem dL_law_1081 : decode cL_law 1081 = .ok (.iadd, 1) := by decide +kernel
theorem dL_law_1082 : decode cL_law 1082 = .ok (.iaload, 1) := by decide +kernel
theorem dL_law_1083 : decode cL_law 1083 = .ok (.aload_n 0, 1) := by decide +kernel
theorem dL_law_1084 : decode cL_law 1084 = .ok (.iload_n 3, 1) := by decide +kernel
theorem dL_law_1085 : decode cL_law 1085 = .ok (.iconst 2, 1) := by decide +kernel
theorem dL_law_1086 : decode cL_law 1086 = .ok (.iadd, 1) := by decide +kernel
theorem dL_law_1087 : decode cL_law 1087 = .ok (.iaload, 1) := by decide +kernel
theorem dL_law_1088 : decode cL_law 1088 = .ok (.aload_n 0, 1) := by decide +kernel
theorem dL_law_1089 : decode cL_law 1089 = .ok (.iload_n 3, 1) := by decide +kernel
theorem dL_law_1090 : decode cL_law 1090 = .ok (.iconst 3, 1) := by decide +kernel
theorem dL_law_1091 : decode cL_law 1091 = .ok (.iadd, 1) := by decide +kernel
theorem dL_law_1092 : decode cL_law 1092 = .ok (.iaload, 1) := by decide +kernel
theorem dL_law_1093 : decode cL_law 1093 = .ok (.invokevirtual 130, 3) := by decide +kernel
theorem dL_law_1096 : decode cL_law 1096 = .ok (.aload_n 2, 1) := by decide +kernel
theorem dL_law_1097 : decode cL_law 1097 = .ok (.aload_n 0, 1) := by decide +kernel
theorem dL_law_1098 : decode cL_law 1098 = .ok (.iload_n 3, 1) := by decide +kernel
theorem dL_law_1099 : decode cL_law 1099 = .ok (.iconst 1, 1) := by decide +kernel
theorem dL_law_1100 : decode cL_law 1100 = .ok (.iadd, 1) := by decide +kernel
theorem dL_law_1101 : decode cL_law 1101 = .ok (.iaload, 1) := by decide +kernel
theorem dL_law_1102 : decode cL_law 1102 = .ok (.aload_n 0, 1) := by decide +kernel
theorem dL_law_1103 : decode cL_law 1103 = .ok (.iload_n 3, 1) := by decide +kernel
theorem dL_law_1104 : decode cL_law 1104 = .ok (.iconst 2, 1) := by decide +kernel
theorem dL_law_1105 : decode cL_law 1105 = .ok (.iadd, 1) := by decide +kernel
theorem dL_law_1106 : decode cL_law 1106 = .ok (.iaload, 1) := by decide +kernel
theorem dL_law_1107 : decode cL_law 1107 = .ok (.aload_n 0, 1) := by decide +kernel
theorem dL_law_1108 : decode cL_law 1108 = .ok (.iload_n 3, 1) := by decide +kernel
theorem dL_law_1109 : decode cL_law 1109 = .ok (.iconst 3, 1) := by decide +kernel
theorem dL_law_1110 : decode cL_law 1110 = .ok (.iadd, 1) := by decide +kernel
theorem dL_law_1111 : decode cL_law 1111 = .ok (.iaload, 1) := by decide +kernel
theorem dL_law_1112 : decode cL_law 1112 = .ok (.invokevirtual 133, 3) := by decide +kernel
theorem dL_law_1115 : decode cL_law 1115 = .ok (.if_icmp .eq 120, 3) := by decide +kernel
theorem dL_law_1118 : decode cL_law 1118 = .ok (.iconst 0, 1) := by decide +kernel
theorem dL_law_1119 : decode cL_law 1119 = .ok (.ireturn, 1) := by decide +kernel
theorem dL_law_1120 : decode cL_law 1120 = .ok (.aload_n 1, 1) := by decide +kernel
theorem dL_law_1121 : decode cL_law 1121 = .ok (.aload_n 0, 1) := by decide +kernel
theorem dL_law_1122 : decode cL_law 1122 = .ok (.iload_n 3, 1) := by decide +kernel
theorem dL_law_1123 : decode cL_law 1123 = .ok (.iconst 1, 1) := by decide +kernel
theorem dL_law_1124 : decode cL_law 1124 = .ok (.iadd, 1) := by decide +kernel
theorem dL_law_1125 : decode cL_law 1125 = .ok (.iaload, 1) := by decide +kernel
theorem dL_law_1126 : decode cL_law 1126 = .ok (.aload_n 0, 1) := by decide +kernel
theorem dL_law_1127 : decode cL_law 1127 = .ok (.iload_n 3, 1) := by decide +kernel
theorem dL_law_1128 : decode cL_law 1128 = .ok (.iconst 2, 1) := by decide +kernel
theorem dL_law_1129 : decode cL_law 1129 = .ok (.iadd, 1) := by decide +kernel
theorem dL_law_1130 : decode cL_law 1130 = .ok (.iaload, 1) := by decide +kernel
theorem dL_law_1131 : decode cL_law 1131 = .ok (.invokevirtual 134, 3) := by decide +kernel
theorem dL_law_1134 : decode cL_law 1134 = .ok (.aload_n 2, 1) := by decide +kernel
theorem dL_law_1135 : decode cL_law 1135 = .ok (.aload_n 0, 1) := by decide +kernel
theorem dL_law_1136 : decode cL_law 1136 = .ok (.iload_n 3, 1) := by decide +kernel
theorem dL_law_1137 : decode cL_law 1137 = .ok (.iconst 1, 1) := by decide +kernel
theorem dL_law_1138 : decode cL_law 1138 = .ok (.iadd, 1) := by decide +kernel
theorem dL_law_1139 : decode cL_law 1139 = .ok (.iaload, 1) := by decide +kernel
theorem dL_law_1140 : decode cL_law 1140 = .ok (.aload_n 0, 1) := by decide +kernel
theorem dL_law_1141 : decode cL_law 1141 = .ok (.iload_n 3, 1) := by decide +kernel
theorem dL_law_1142 : decode cL_law 1142 = .ok (.iconst 2, 1) := by decide +kernel
theorem dL_law_1143 : decode cL_law 1143 = .ok (.iadd, 1) := by decide +kernel
theorem dL_law_1144 : decode cL_law 1144 = .ok (.iaload, 1) := by decide +kernel
theorem dL_law_1145 : decode cL_law 1145 = .ok (.invokevirtual 137, 3) := by decide +kernel
theorem dL_law_1148 : decode cL_law 1148 = .ok (.if_icmp .eq 87, 3) := by decide +kernel
theorem dL_law_1151 : decode cL_law 1151 = .ok (.iconst 0, 1) := by decide +kernel
theorem dL_law_1152 : decode cL_law 1152 = .ok (.ireturn, 1) := by decide +kernel
theorem dL_law_1153 : decode cL_law 1153 = .ok (.aload_n 1, 1) := by decide +kernel
theorem dL_law_1154 : decode cL_law 1154 = .ok (.invokevirtual 138, 3) := by decide +kernel
theorem dL_law_1157 : decode cL_law 1157 = .ok (.aload_n 2, 1) := by decide +kernel
theorem dL_law_1158 : decode cL_law 1158 = .ok (.invokevirtual 141, 3) := by decide +kernel
theorem dL_law_1161 : decode cL_law 1161 = .ok (.if_icmp .eq 74, 3) := by decide +kernel
theorem dL_law_1164 : decode cL_law 1164 = .ok (.iconst 0, 1) := by decide +kernel
theorem dL_law_1165 : decode cL_law 1165 = .ok (.ireturn, 1) := by decide +kernel
theorem dL_law_1166 : decode cL_law 1166 = .ok (.aload_n 1, 1) := by decide +kernel
theorem dL_law_1167 : decode cL_law 1167 = .ok (.aload_n 0, 1) := by decide +kernel
theorem dL_law_1168 : decode cL_law 1168 = .ok (.iload_n 3, 1) := by decide +kernel
theorem dL_law_1169 : decode cL_law 1169 = .ok (.iconst 1, 1) := by decide +kernel
theorem dL_law_1170 : decode cL_law 1170 = .ok (.iadd, 1) := by decide +kernel
theorem dL_law_1171 : decode cL_law 1171 = .ok (.iaload, 1) := by decide +kernel
theorem dL_law_1172 : decode cL_law 1172 = .ok (.invokevirtual 142, 3) := by decide +kernel
theorem dL_law_1175 : decode cL_law 1175 = .ok (.aload_n 2, 1) := by decide +kernel
theorem dL_law_1176 : decode cL_law 1176 = .ok (.aload_n 0, 1) := by decide +kernel
theorem dL_law_1177 : decode cL_law 1177 = .ok (.iload_n 3, 1) := by decide +kernel
theorem dL_law_1178 : decode cL_law 1178 = .ok (.iconst 1, 1) := by decide +kernel
theorem dL_law_1179 : decode cL_law 1179 = .ok (.iadd, 1) := by decide +kernel
theorem dL_law_1180 : decode cL_law 1180 = .ok (.iaload, 1) := by decide +kernel
theorem dL_law_1181 : decode cL_law 1181 = .ok (.invokevirtual 146, 3) := by decide +kernel
theorem dL_law_1184 : decode cL_law 1184 = .ok (.if_icmp .eq 51, 3) := by decide +kernel
theorem dL_law_1187 : decode cL_law 1187 = .ok (.iconst 0, 1) := by decide +kernel
theorem dL_law_1188 : decode cL_law 1188 = .ok (.ireturn, 1) := by decide +kernel
theorem dL_law_1189 : decode cL_law 1189 = .ok (.aload_n 1, 1) := by decide +kernel
theorem dL_law_1190 : decode cL_law 1190 = .ok (.aload_n 0, 1) := by decide +kernel
theorem dL_law_1191 : decode cL_law 1191 = .ok (.iload_n 3, 1) := by decide +kernel
theorem dL_law_1192 : decode cL_law 1192 = .ok (.iconst 1, 1) := by decide +kernel
theorem dL_law_1193 : decode cL_law 1193 = .ok (.iadd, 1) := by decide +kernel
theorem dL_law_1194 : decode cL_law 1194 = .ok (.iaload, 1) := by decide +kernel
theorem dL_law_1195 : decode cL_law 1195 = .ok (.invokevirtual 147, 3) := by decide +kernel
theorem dL_law_1198 : decode cL_law 1198 = .ok (.aload_n 2, 1) := by decide +kernel
theorem dL_law_1199 : decode cL_law 1199 = .ok (.aload_n 0, 1) := by decide +kernel
theorem dL_law_1200 : decode cL_law 1200 = .ok (.iload_n 3, 1) := by decide +kernel
theorem dL_law_1201 : decode cL_law 1201 = .ok (.iconst 1, 1) := by decide +kernel
theorem dL_law_1202 : decode cL_law 1202 = .ok (.iadd, 1) := by decide +kernel
theorem dL_law_1203 : decode cL_law 1203 = .ok (.iaload, 1) := by decide +kernel
theorem dL_law_1204 : decode cL_law 1204 = .ok (.invokevirtual 150, 3) := by decide +kernel
theorem dL_law_1207 : decode cL_law 1207 = .ok (.if_icmp .eq 28, 3) := by decide +kernel
theorem dL_law_1210 : decode cL_law 1210 = .ok (.iconst 0, 1) := by decide +kernel
theorem dL_law_1211 : decode cL_law 1211 = .ok (.ireturn, 1) := by decide +kernel
theorem dL_law_1212 : decode cL_law 1212 = .ok (.aload_n 1, 1) := by decide +kernel
theorem dL_law_1213 : decode cL_law 1213 = .ok (.aload_n 0, 1) := by decide +kernel
theorem dL_law_1214 : decode cL_law 1214 = .ok (.iload_n 3, 1) := by decide +kernel
theorem dL_law_1215 : decode cL_law 1215 = .ok (.iconst 1, 1) := by decide +kernel
theorem dL_law_1216 : decode cL_law 1216 = .ok (.iadd, 1) := by decide +kernel
theorem dL_law_1217 : decode cL_law 1217 = .ok (.iaload, 1) := by decide +kernel
theorem dL_law_1218 : decode cL_law 1218 = .ok (.invokevirtual 151, 3) := by decide +kernel
theorem dL_law_1221 : decode cL_law 1221 = .ok (.aload_n 2, 1) := by decide +kernel
theorem dL_law_1222 : decode cL_law 1222 = .ok (.aload_n 0, 1) := by decide +kernel
theorem dL_law_1223 : decode cL_law 1223 = .ok (.iload_n 3, 1) := by decide +kernel
theorem dL_law_1224 : decode cL_law 1224 = .ok (.iconst 1, 1) := by decide +kernel
theorem dL_law_1225 : decode cL_law 1225 = .ok (.iadd, 1) := by decide +kernel
theorem dL_law_1226 : decode cL_law 1226 = .ok (.iaload, 1) := by decide +kernel
theorem dL_law_1227 : decode cL_law 1227 = .ok (.invokevirtual 154, 3) := by decide +kernel
theorem dL_law_1230 : decode cL_law 1230 = .ok (.if_icmp .eq 5, 3) := by decide +kernel
theorem dL_law_1233 : decode cL_law 1233 = .ok (.iconst 0, 1) := by decide +kernel
theorem dL_law_1234 : decode cL_law 1234 = .ok (.ireturn, 1) := by decide +kernel
theorem dL_law_1235 : decode cL_law 1235 = .ok (.iinc 3 6, 3) := by decide +kernel
theorem dL_law_1238 : decode cL_law 1238 = .ok (.goto (-1220), 3) := by decide +kernel
theorem dL_law_1241 : decode cL_law 1241 = .ok (.iconst 1, 1) := by decide +kernel
theorem dL_law_1242 : decode cL_law 1242 = .ok (.ireturn, 1) := by decide +kernel
theorem sc_in {j d L : Nat} {x : Int32} (hx : x = nI d) (h : j + d < L) (hL : L ≤ 3072) : vp_in (nI j + x) L := by
  subst hx
  rw [nI_add]
  exact vp_in_nI h (by omega)
theorem sc_in0 {j L : Nat} (h : j < L) (hL : L ≤ 3072) : vp_in (nI j) L := vp_in_nI h (by omega)
theorem lw_gts {args : Array Value} {s : State} (hts : ∀ w ∈ lw_tbl, w.before args s = true) : ∀ w ∈ lw_g, w.before args s = true := fun w h => hts w (lw_g_tbl w h)
set_option maxHeartbeats 4000000 in
set_option maxRecDepth 100000 in
theorem law_c0 {p : Program} {l : Launch} {e : Env} {s : State} {m : MethodId} {below : List Frame} {meth : Method} {c : Code} {Q : State → Prop} {D : va_G} {G : GG} {adC adR : Nat → Nat} {layC layR : List KK} {b L j : Nat} {xs : Nat → Int32} {hc hr : PH} {H : Heap} {locs : List Loc} {ls : Array Slot} {cells slots : Nat} {J : PH → PH → Prop} (hM : CallFix p m c cL_law 4 s #[Value.ref b] lw_g RL) (hX : va_X b L xs s s.heap) (hbl : b < s.heap.size) (hcs : cells ≤ room_1.cells ∧ slots ≤ room_1.slots) (oC : okX11 layC) (oR : okX12 layR) (hL : L ≤ 3072) (hj : j + 5 < L) (hl : lv_has ls 4 [(0, .ref b), (1, .ref (adC 0)), (2, .ref (adR 0)), (3, .int (nI j))]) (hw : Wd D G (fun q : Nat => s.heap.size ≤ q) s.heap adC layC (encA adR G hr 0 layR) hc s H locs) (hop : ∃ (v : Int32) (hc' : PH) (hr' : PH), c_X11_feed (xs (nI j + 1).toNatClampNeg) (xs (nI j + 2).toNatClampNeg) (xs (nI j + 3).toNatClampNeg) (xs (nI j + 4).toNatClampNeg) (xs (nI j + 5).toNatClampNeg) hc = some (v, hc') ∧ c_X12_feed (xs (nI j + 1).toNatClampNeg) (xs (nI j + 2).toNatClampNeg) (xs (nI j + 3).toNatClampNeg) (xs (nI j + 4).toNatClampNeg) (xs (nI j + 5).toNatClampNeg) hr = some (v, hr') ∧ J hc' hr') (kk : ∀ (hc' hr' : PH) (H : Heap) (locs : List Loc), J hc' hr' → Wd D G (fun q : Nat => s.heap.size ≤ q) s.heap adC layC (encA adR G hr' 0 layR) hc' s H locs → W p l e room_1 s m #[Value.ref b] below meth c H locs cells slots Q (F0 m 1235 ls [])) : W p l e room_1 s m #[Value.ref b] below meth c H locs cells slots Q (F0 m 180 ls []) := by
  obtain ⟨v, hc', hr', hF1, hF2, hJ⟩ := hop
  refine lv_aload_n hM.1 hM.2.1 dL_law_180 rfl (lv_at hl 1 rfl) ?_
  refine lv_aload_n hM.1 hM.2.1 dL_law_181 rfl (lv_at hl 0 rfl) ?_
  refine lv_iload_n hM.1 hM.2.1 dL_law_182 rfl (lv_at hl 3 rfl) ?_
  refine lv_iconst (v := 1) hM.1 hM.2.1 dL_law_183 ic_1 ?_
  refine lv_iadd hM.1 hM.2.1 dL_law_184 ?_
  refine va_sld hM.1 hM.2.1 hX hbl (Nat.not_le.mpr hbl) hw.2.2.2.1 (sc_in (d := 1) rfl (by omega) hL) dL_law_185 ?_
  refine lv_aload_n hM.1 hM.2.1 dL_law_186 rfl (lv_at hl 0 rfl) ?_
  refine lv_iload_n hM.1 hM.2.1 dL_law_187 rfl (lv_at hl 3 rfl) ?_
  refine lv_iconst (v := 2) hM.1 hM.2.1 dL_law_188 ic_2 ?_
  refine lv_iadd hM.1 hM.2.1 dL_law_189 ?_
  refine va_sld hM.1 hM.2.1 hX hbl (Nat.not_le.mpr hbl) hw.2.2.2.1 (sc_in (d := 2) rfl (by omega) hL) dL_law_190 ?_
  refine lv_aload_n hM.1 hM.2.1 dL_law_191 rfl (lv_at hl 0 rfl) ?_
  refine lv_iload_n hM.1 hM.2.1 dL_law_192 rfl (lv_at hl 3 rfl) ?_
  refine lv_iconst (v := 3) hM.1 hM.2.1 dL_law_193 ic_3 ?_
  refine lv_iadd hM.1 hM.2.1 dL_law_194 ?_
  refine va_sld hM.1 hM.2.1 hX hbl (Nat.not_le.mpr hbl) hw.2.2.2.1 (sc_in (d := 3) rfl (by omega) hL) dL_law_195 ?_
  refine lv_aload_n hM.1 hM.2.1 dL_law_196 rfl (lv_at hl 0 rfl) ?_
  refine lv_iload_n hM.1 hM.2.1 dL_law_197 rfl (lv_at hl 3 rfl) ?_
  refine lv_iconst (v := 4) hM.1 hM.2.1 dL_law_198 ic_4 ?_
  refine lv_iadd hM.1 hM.2.1 dL_law_199 ?_
  refine va_sld hM.1 hM.2.1 hX hbl (Nat.not_le.mpr hbl) hw.2.2.2.1 (sc_in (d := 4) rfl (by omega) hL) dL_law_200 ?_
  refine lv_aload_n hM.1 hM.2.1 dL_law_201 rfl (lv_at hl 0 rfl) ?_
  refine lv_iload_n hM.1 hM.2.1 dL_law_202 rfl (lv_at hl 3 rfl) ?_
  refine lv_iconst (v := 5) hM.1 hM.2.1 dL_law_203 ic_5 ?_
  refine lv_iadd hM.1 hM.2.1 dL_law_204 ?_
  refine va_sld hM.1 hM.2.1 hX hbl (Nat.not_le.mpr hbl) hw.2.2.2.1 (sc_in (d := 5) rfl (by omega) hL) dL_law_205 ?_
  refine y_callVI (rest := []) hM hw (ct_X11_feed l oC (xs (nI j + 1).toNatClampNeg) (xs (nI j + 2).toNatClampNeg) (xs (nI j + 3).toNatClampNeg) (xs (nI j + 4).toNatClampNeg) (xs (nI j + 5).toNatClampNeg)) [.int (xs (nI j + 1).toNatClampNeg), .int (xs (nI j + 2).toNatClampNeg), .int (xs (nI j + 3).toNatClampNeg), .int (xs (nI j + 4).toNatClampNeg), .int (xs (nI j + 5).toNatClampNeg)] (okX11.o oC) rfl rfl rfl (gi_V ml_L_13 im_X11_feed sl_X11_feed in_X11 kc_X11_feed) hd_X11_feed rfl ⟨Nat.le_of_ble_eq_true rfl, Nat.le_of_ble_eq_true rfl⟩ rfl (Nat.le_of_ble_eq_true rfl) hl.1 hF1 hcs dL_law_206 (fun H locs hw => ?_)
  refine lv_aload_n hM.1 hM.2.1 dL_law_209 rfl (lv_at hl 2 rfl) ?_
  refine lv_aload_n hM.1 hM.2.1 dL_law_210 rfl (lv_at hl 0 rfl) ?_
  refine lv_iload_n hM.1 hM.2.1 dL_law_211 rfl (lv_at hl 3 rfl) ?_
  refine lv_iconst (v := 1) hM.1 hM.2.1 dL_law_212 ic_1 ?_
  refine lv_iadd hM.1 hM.2.1 dL_law_213 ?_
  refine va_sld hM.1 hM.2.1 hX hbl (Nat.not_le.mpr hbl) hw.2.2.2.1 (sc_in (d := 1) rfl (by omega) hL) dL_law_214 ?_
  refine lv_aload_n hM.1 hM.2.1 dL_law_215 rfl (lv_at hl 0 rfl) ?_
  refine lv_iload_n hM.1 hM.2.1 dL_law_216 rfl (lv_at hl 3 rfl) ?_
  refine lv_iconst (v := 2) hM.1 hM.2.1 dL_law_217 ic_2 ?_
  refine lv_iadd hM.1 hM.2.1 dL_law_218 ?_
  refine va_sld hM.1 hM.2.1 hX hbl (Nat.not_le.mpr hbl) hw.2.2.2.1 (sc_in (d := 2) rfl (by omega) hL) dL_law_219 ?_
  refine lv_aload_n hM.1 hM.2.1 dL_law_220 rfl (lv_at hl 0 rfl) ?_
  refine lv_iload_n hM.1 hM.2.1 dL_law_221 rfl (lv_at hl 3 rfl) ?_
  refine lv_iconst (v := 3) hM.1 hM.2.1 dL_law_222 ic_3 ?_
  refine lv_iadd hM.1 hM.2.1 dL_law_223 ?_
  refine va_sld hM.1 hM.2.1 hX hbl (Nat.not_le.mpr hbl) hw.2.2.2.1 (sc_in (d := 3) rfl (by omega) hL) dL_law_224 ?_
  refine lv_aload_n hM.1 hM.2.1 dL_law_225 rfl (lv_at hl 0 rfl) ?_
  refine lv_iload_n hM.1 hM.2.1 dL_law_226 rfl (lv_at hl 3 rfl) ?_
  refine lv_iconst (v := 4) hM.1 hM.2.1 dL_law_227 ic_4 ?_
  refine lv_iadd hM.1 hM.2.1 dL_law_228 ?_
  refine va_sld hM.1 hM.2.1 hX hbl (Nat.not_le.mpr hbl) hw.2.2.2.1 (sc_in (d := 4) rfl (by omega) hL) dL_law_229 ?_
  refine lv_aload_n hM.1 hM.2.1 dL_law_230 rfl (lv_at hl 0 rfl) ?_
  refine lv_iload_n hM.1 hM.2.1 dL_law_231 rfl (lv_at hl 3 rfl) ?_
  refine lv_iconst (v := 5) hM.1 hM.2.1 dL_law_232 ic_5 ?_
  refine lv_iadd hM.1 hM.2.1 dL_law_233 ?_
  refine va_sld hM.1 hM.2.1 hX hbl (Nat.not_le.mpr hbl) hw.2.2.2.1 (sc_in (d := 5) rfl (by omega) hL) dL_law_234 ?_
  have hw := wd_swap hw
  refine y_callVI (rest := [.int v]) hM hw (ct_X12_feed l oR (xs (nI j + 1).toNatClampNeg) (xs (nI j + 2).toNatClampNeg) (xs (nI j + 3).toNatClampNeg) (xs (nI j + 4).toNatClampNeg) (xs (nI j + 5).toNatClampNeg)) [.int (xs (nI j + 1).toNatClampNeg), .int (xs (nI j + 2).toNatClampNeg), .int (xs (nI j + 3).toNatClampNeg), .int (xs (nI j + 4).toNatClampNeg), .int (xs (nI j + 5).toNatClampNeg)] (okX12.o oR) rfl rfl rfl (gi_V ml_L_17 im_X12_feed sl_X12_feed in_X12 kc_X12_feed) hd_X12_feed rfl ⟨Nat.le_of_ble_eq_true rfl, Nat.le_of_ble_eq_true rfl⟩ rfl (Nat.le_of_ble_eq_true rfl) hl.1 hF2 hcs dL_law_235 (fun H locs hw => ?_)
  have hw := wd_swap hw
  refine lv_icmp_eq (tgt := 1235) hM.1 hM.2.1 dL_law_238 (by decide) (fun _ => ?_) (fun q => absurd rfl q)
  exact kk _ _ H locs hJ hw
set_option maxHeartbeats 4000000 in
set_option maxRecDepth 100000 in
theorem law_c1 {p : Program} {l : Launch} {e : Env} {s : State} {m : MethodId} {below : List Frame} {meth : Method} {c : Code} {Q : State → Prop} {D : va_G} {G : GG} {adC adR : Nat → Nat} {layC layR : List KK} {b L j : Nat} {xs : Nat → Int32} {hc hr : PH} {H : Heap} {locs : List Loc} {ls : Array Slot} {cells slots : Nat} {J : PH → PH → Prop} (hM : CallFix p m c cL_law 4 s #[Value.ref b] lw_g RL) (hX : va_X b L xs s s.heap) (hbl : b < s.heap.size) (hcs : cells ≤ room_1.cells ∧ slots ≤ room_1.slots) (oC : okX11 layC) (oR : okX12 layR) (hL : L ≤ 3072) (hj : j + 5 < L) (hl : lv_has ls 4 [(0, .ref b), (1, .ref (adC 0)), (2, .ref (adR 0)), (3, .int (nI j))]) (hw : Wd D G (fun q : Nat => s.heap.size ≤ q) s.heap adC layC (encA adR G hr 0 layR) hc s H locs) (hop : ∃ (v : Int32) (hc' : PH) (hr' : PH), c_X11_back (xs (nI j + 1).toNatClampNeg) hc = some (v, hc') ∧ c_X12_back (xs (nI j + 1).toNatClampNeg) hr = some (v, hr') ∧ J hc' hr') (kk : ∀ (hc' hr' : PH) (H : Heap) (locs : List Loc), J hc' hr' → Wd D G (fun q : Nat => s.heap.size ≤ q) s.heap adC layC (encA adR G hr' 0 layR) hc' s H locs → W p l e room_1 s m #[Value.ref b] below meth c H locs cells slots Q (F0 m 1235 ls [])) : W p l e room_1 s m #[Value.ref b] below meth c H locs cells slots Q (F0 m 243 ls []) := by
  obtain ⟨v, hc', hr', hF1, hF2, hJ⟩ := hop
  refine lv_aload_n hM.1 hM.2.1 dL_law_243 rfl (lv_at hl 1 rfl) ?_
  refine lv_aload_n hM.1 hM.2.1 dL_law_244 rfl (lv_at hl 0 rfl) ?_
  refine lv_iload_n hM.1 hM.2.1 dL_law_245 rfl (lv_at hl 3 rfl) ?_
  refine lv_iconst (v := 1) hM.1 hM.2.1 dL_law_246 ic_1 ?_
  refine lv_iadd hM.1 hM.2.1 dL_law_247 ?_
  refine va_sld hM.1 hM.2.1 hX hbl (Nat.not_le.mpr hbl) hw.2.2.2.1 (sc_in (d := 1) rfl (by omega) hL) dL_law_248 ?_
  refine y_callVI (rest := []) hM hw (ct_X11_back l oC (xs (nI j + 1).toNatClampNeg)) [.int (xs (nI j + 1).toNatClampNeg)] (okX11.o oC) rfl rfl rfl (gi_V ml_L_18 im_X11_back sl_X11_back in_X11 kc_X11_back) hd_X11_back rfl ⟨Nat.le_of_ble_eq_true rfl, Nat.le_of_ble_eq_true rfl⟩ rfl (Nat.le_of_ble_eq_true rfl) hl.1 hF1 hcs dL_law_249 (fun H locs hw => ?_)
  refine lv_aload_n hM.1 hM.2.1 dL_law_252 rfl (lv_at hl 2 rfl) ?_
  refine lv_aload_n hM.1 hM.2.1 dL_law_253 rfl (lv_at hl 0 rfl) ?_
  refine lv_iload_n hM.1 hM.2.1 dL_law_254 rfl (lv_at hl 3 rfl) ?_
  refine lv_iconst (v := 1) hM.1 hM.2.1 dL_law_255 ic_1 ?_
  refine lv_iadd hM.1 hM.2.1 dL_law_256 ?_
  refine va_sld hM.1 hM.2.1 hX hbl (Nat.not_le.mpr hbl) hw.2.2.2.1 (sc_in (d := 1) rfl (by omega) hL) dL_law_257 ?_
  have hw := wd_swap hw
  refine y_callVI (rest := [.int v]) hM hw (ct_X12_back l oR (xs (nI j + 1).toNatClampNeg)) [.int (xs (nI j + 1).toNatClampNeg)] (okX12.o oR) rfl rfl rfl (gi_V ml_L_22 im_X12_back sl_X12_back in_X12 kc_X12_back) hd_X12_back rfl ⟨Nat.le_of_ble_eq_true rfl, Nat.le_of_ble_eq_true rfl⟩ rfl (Nat.le_of_ble_eq_true rfl) hl.1 hF2 hcs dL_law_258 (fun H locs hw => ?_)
  have hw := wd_swap hw
  refine lv_icmp_eq (tgt := 1235) hM.1 hM.2.1 dL_law_261 (by decide) (fun _ => ?_) (fun q => absurd rfl q)
  exact kk _ _ H locs hJ hw
set_option maxHeartbeats 4000000 in
set_option maxRecDepth 100000 in
theorem law_c2 {p : Program} {l : Launch} {e : Env} {s : State} {m : MethodId} {below : List Frame} {meth : Method} {c : Code} {Q : State → Prop} {D : va_G} {G : GG} {adC adR : Nat → Nat} {layC layR : List KK} {b L j : Nat} {xs : Nat → Int32} {hc hr : PH} {H : Heap} {locs : List Loc} {ls : Array Slot} {cells slots : Nat} {J : PH → PH → Prop} (hM : CallFix p m c cL_law 4 s #[Value.ref b] lw_g RL) (hX : va_X b L xs s s.heap) (hbl : b < s.heap.size) (hcs : cells ≤ room_1.cells ∧ slots ≤ room_1.slots) (oC : okX11 layC) (oR : okX12 layR) (hL : L ≤ 3072) (hj : j + 5 < L) (hl : lv_has ls 4 [(0, .ref b), (1, .ref (adC 0)), (2, .ref (adR 0)), (3, .int (nI j))]) (hw : Wd D G (fun q : Nat => s.heap.size ≤ q) s.heap adC layC (encA adR G hr 0 layR) hc s H locs) (hop : ∃ (v : Int32) (hc' : PH) (hr' : PH), c_X11_read hc = some (v, hc') ∧ c_X12_read hr = some (v, hr') ∧ J hc' hr') (kk : ∀ (hc' hr' : PH) (H : Heap) (locs : List Loc), J hc' hr' → Wd D G (fun q : Nat => s.heap.size ≤ q) s.heap adC layC (encA adR G hr' 0 layR) hc' s H locs → W p l e room_1 s m #[Value.ref b] below meth c H locs cells slots Q (F0 m 1235 ls [])) : W p l e room_1 s m #[Value.ref b] below meth c H locs cells slots Q (F0 m 266 ls []) := by
  obtain ⟨v, hc', hr', hF1, hF2, hJ⟩ := hop
  refine lv_aload_n hM.1 hM.2.1 dL_law_266 rfl (lv_at hl 1 rfl) ?_
  refine y_callVI (rest := []) hM hw (ct_X11_read l oC) [] (okX11.o oC) rfl rfl rfl (gi_V ml_L_23 im_X11_read sl_X11_read in_X11 kc_X11_read) hd_X11_read rfl ⟨Nat.le_of_ble_eq_true rfl, Nat.le_of_ble_eq_true rfl⟩ rfl (Nat.le_of_ble_eq_true rfl) hl.1 hF1 hcs dL_law_267 (fun H locs hw => ?_)
  refine lv_aload_n hM.1 hM.2.1 dL_law_270 rfl (lv_at hl 2 rfl) ?_
  have hw := wd_swap hw
  refine y_callVI (rest := [.int v]) hM hw (ct_X12_read l oR) [] (okX12.o oR) rfl rfl rfl (gi_V ml_L_27 im_X12_read sl_X12_read in_X12 kc_X12_read) hd_X12_read rfl ⟨Nat.le_of_ble_eq_true rfl, Nat.le_of_ble_eq_true rfl⟩ rfl (Nat.le_of_ble_eq_true rfl) hl.1 hF2 hcs dL_law_271 (fun H locs hw => ?_)
  have hw := wd_swap hw
  refine lv_icmp_eq (tgt := 1235) hM.1 hM.2.1 dL_law_274 (by decide) (fun _ => ?_) (fun q => absurd rfl q)
  exact kk _ _ H locs hJ hw
set_option maxHeartbeats 4000000 in
set_option maxRecDepth 100000 in
theorem law_c3 {p : Program} {l : Launch} {e : Env} {s : State} {m : MethodId} {below : List Frame} {meth : Method} {c : Code} {Q : State → Prop} {D : va_G} {G : GG} {adC adR : Nat → Nat} {layC layR : List KK} {b L j : Nat} {xs : Nat → Int32} {hc hr : PH} {H : Heap} {locs : List Loc} {ls : Array Slot} {cells slots : Nat} {J : PH → PH → Prop} (hM : CallFix p m c cL_law 4 s #[Value.ref b] lw_g RL) (hX : va_X b L xs s s.heap) (hbl : b < s.heap.size) (hcs : cells ≤ room_1.cells ∧ slots ≤ room_1.slots) (oC : okX11 layC) (oR : okX12 layR) (hL : L ≤ 3072) (hj : j + 5 < L) (hl : lv_has ls 4 [(0, .ref b), (1, .ref (adC 0)), (2, .ref (adR 0)), (3, .int (nI j))]) (hw : Wd D G (fun q : Nat => s.heap.size ≤ q) s.heap adC layC (encA adR G hr 0 layR) hc s H locs) (hop : ∃ (v : Int32), c_X11_place hc = some v ∧ c_X12_place hr = some v ∧ J hc hr) (kk : ∀ (hc' hr' : PH) (H : Heap) (locs : List Loc), J hc' hr' → Wd D G (fun q : Nat => s.heap.size ≤ q) s.heap adC layC (encA adR G hr' 0 layR) hc' s H locs → W p l e room_1 s m #[Value.ref b] below meth c H locs cells slots Q (F0 m 1235 ls [])) : W p l e room_1 s m #[Value.ref b] below meth c H locs cells slots Q (F0 m 279 ls []) := by
  obtain ⟨v, hF1, hF2, hJ⟩ := hop
  refine lv_aload_n hM.1 hM.2.1 dL_law_279 rfl (lv_at hl 1 rfl) ?_
  refine y_callVI (rest := []) hM hw (ct_X11_place l oC) [] (okX11.o oC) rfl rfl rfl (gi_V ml_L_28 im_X11_place sl_X11_place in_X11 kc_X11_place) hd_X11_place rfl ⟨Nat.le_of_ble_eq_true rfl, Nat.le_of_ble_eq_true rfl⟩ rfl (Nat.le_of_ble_eq_true rfl) hl.1 (rd_mk hF1) hcs dL_law_280 (fun H locs hw => ?_)
  refine lv_aload_n hM.1 hM.2.1 dL_law_283 rfl (lv_at hl 2 rfl) ?_
  have hw := wd_swap hw
  refine y_callVI (rest := [.int v]) hM hw (ct_X12_place l oR) [] (okX12.o oR) rfl rfl rfl (gi_V ml_L_31 im_X12_place sl_X12_place in_X12 kc_X12_place) hd_X12_place rfl ⟨Nat.le_of_ble_eq_true rfl, Nat.le_of_ble_eq_true rfl⟩ rfl (Nat.le_of_ble_eq_true rfl) hl.1 (rd_mk hF2) hcs dL_law_284 (fun H locs hw => ?_)
  have hw := wd_swap hw
  refine lv_icmp_eq (tgt := 1235) hM.1 hM.2.1 dL_law_287 (by decide) (fun _ => ?_) (fun q => absurd rfl q)
  exact kk _ _ H locs hJ hw
set_option maxHeartbeats 4000000 in
set_option maxRecDepth 100000 in
theorem law_c4 {p : Program} {l : Launch} {e : Env} {s : State} {m : MethodId} {below : List Frame} {meth : Method} {c : Code} {Q : State → Prop} {D : va_G} {G : GG} {adC adR : Nat → Nat} {layC layR : List KK} {b L j : Nat} {xs : Nat → Int32} {hc hr : PH} {H : Heap} {locs : List Loc} {ls : Array Slot} {cells slots : Nat} {J : PH → PH → Prop} (hM : CallFix p m c cL_law 4 s #[Value.ref b] lw_g RL) (hX : va_X b L xs s s.heap) (hbl : b < s.heap.size) (hcs : cells ≤ room_1.cells ∧ slots ≤ room_1.slots) (oC : okX11 layC) (oR : okX12 layR) (hL : L ≤ 3072) (hj : j + 5 < L) (hl : lv_has ls 4 [(0, .ref b), (1, .ref (adC 0)), (2, .ref (adR 0)), (3, .int (nI j))]) (hw : Wd D G (fun q : Nat => s.heap.size ≤ q) s.heap adC layC (encA adR G hr 0 layR) hc s H locs) (hop : ∃ (v : Int32), c_X11_man (xs (nI j + 1).toNatClampNeg) (xs (nI j + 2).toNatClampNeg) hc = some v ∧ c_X12_man (xs (nI j + 1).toNatClampNeg) (xs (nI j + 2).toNatClampNeg) hr = some v ∧ J hc hr) (kk : ∀ (hc' hr' : PH) (H : Heap) (locs : List Loc), J hc' hr' → Wd D G (fun q : Nat => s.heap.size ≤ q) s.heap adC layC (encA adR G hr' 0 layR) hc' s H locs → W p l e room_1 s m #[Value.ref b] below meth c H locs cells slots Q (F0 m 1235 ls [])) : W p l e room_1 s m #[Value.ref b] below meth c H locs cells slots Q (F0 m 292 ls []) := by
  obtain ⟨v, hF1, hF2, hJ⟩ := hop
  refine lv_aload_n hM.1 hM.2.1 dL_law_292 rfl (lv_at hl 1 rfl) ?_
  refine lv_aload_n hM.1 hM.2.1 dL_law_293 rfl (lv_at hl 0 rfl) ?_
  refine lv_iload_n hM.1 hM.2.1 dL_law_294 rfl (lv_at hl 3 rfl) ?_
  refine lv_iconst (v := 1) hM.1 hM.2.1 dL_law_295 ic_1 ?_
  refine lv_iadd hM.1 hM.2.1 dL_law_296 ?_
  refine va_sld hM.1 hM.2.1 hX hbl (Nat.not_le.mpr hbl) hw.2.2.2.1 (sc_in (d := 1) rfl (by omega) hL) dL_law_297 ?_
  refine lv_aload_n hM.1 hM.2.1 dL_law_298 rfl (lv_at hl 0 rfl) ?_
  refine lv_iload_n hM.1 hM.2.1 dL_law_299 rfl (lv_at hl 3 rfl) ?_
  refine lv_iconst (v := 2) hM.1 hM.2.1 dL_law_300 ic_2 ?_
  refine lv_iadd hM.1 hM.2.1 dL_law_301 ?_
  refine va_sld hM.1 hM.2.1 hX hbl (Nat.not_le.mpr hbl) hw.2.2.2.1 (sc_in (d := 2) rfl (by omega) hL) dL_law_302 ?_
  refine y_callVI (rest := []) hM hw (ct_X11_man l oC (xs (nI j + 1).toNatClampNeg) (xs (nI j + 2).toNatClampNeg)) [.int (xs (nI j + 1).toNatClampNeg), .int (xs (nI j + 2).toNatClampNeg)] (okX11.o oC) rfl rfl rfl (gi_V ml_L_32 im_X11_man sl_X11_man in_X11 kc_X11_man) hd_X11_man rfl ⟨Nat.le_of_ble_eq_true rfl, Nat.le_of_ble_eq_true rfl⟩ rfl (Nat.le_of_ble_eq_true rfl) hl.1 (rd_mk hF1) hcs dL_law_303 (fun H locs hw => ?_)
  refine lv_aload_n hM.1 hM.2.1 dL_law_306 rfl (lv_at hl 2 rfl) ?_
  refine lv_aload_n hM.1 hM.2.1 dL_law_307 rfl (lv_at hl 0 rfl) ?_
  refine lv_iload_n hM.1 hM.2.1 dL_law_308 rfl (lv_at hl 3 rfl) ?_
  refine lv_iconst (v := 1) hM.1 hM.2.1 dL_law_309 ic_1 ?_
  refine lv_iadd hM.1 hM.2.1 dL_law_310 ?_
  refine va_sld hM.1 hM.2.1 hX hbl (Nat.not_le.mpr hbl) hw.2.2.2.1 (sc_in (d := 1) rfl (by omega) hL) dL_law_311 ?_
  refine lv_aload_n hM.1 hM.2.1 dL_law_312 rfl (lv_at hl 0 rfl) ?_
  refine lv_iload_n hM.1 hM.2.1 dL_law_313 rfl (lv_at hl 3 rfl) ?_
  refine lv_iconst (v := 2) hM.1 hM.2.1 dL_law_314 ic_2 ?_
  refine lv_iadd hM.1 hM.2.1 dL_law_315 ?_
  refine va_sld hM.1 hM.2.1 hX hbl (Nat.not_le.mpr hbl) hw.2.2.2.1 (sc_in (d := 2) rfl (by omega) hL) dL_law_316 ?_
  have hw := wd_swap hw
  refine y_callVI (rest := [.int v]) hM hw (ct_X12_man l oR (xs (nI j + 1).toNatClampNeg) (xs (nI j + 2).toNatClampNeg)) [.int (xs (nI j + 1).toNatClampNeg), .int (xs (nI j + 2).toNatClampNeg)] (okX12.o oR) rfl rfl rfl (gi_V ml_L_36 im_X12_man sl_X12_man in_X12 kc_X12_man) hd_X12_man rfl ⟨Nat.le_of_ble_eq_true rfl, Nat.le_of_ble_eq_true rfl⟩ rfl (Nat.le_of_ble_eq_true rfl) hl.1 (rd_mk hF2) hcs dL_law_317 (fun H locs hw => ?_)
  have hw := wd_swap hw
  refine lv_icmp_eq (tgt := 1235) hM.1 hM.2.1 dL_law_320 (by decide) (fun _ => ?_) (fun q => absurd rfl q)
  exact kk _ _ H locs hJ hw
set_option maxHeartbeats 4000000 in
set_option maxRecDepth 100000 in
theorem law_c5 {p : Program} {l : Launch} {e : Env} {s : State} {m : MethodId} {below : List Frame} {meth : Method} {c : Code} {Q : State → Prop} {D : va_G} {G : GG} {adC adR : Nat → Nat} {layC layR : List KK} {b L j : Nat} {xs : Nat → Int32} {hc hr : PH} {H : Heap} {locs : List Loc} {ls : Array Slot} {cells slots : Nat} {J : PH → PH → Prop} (hM : CallFix p m c cL_law 4 s #[Value.ref b] lw_g RL) (hX : va_X b L xs s s.heap) (hbl : b < s.heap.size) (hcs : cells ≤ room_1.cells ∧ slots ≤ room_1.slots) (oC : okX11 layC) (oR : okX12 layR) (hL : L ≤ 3072) (hj : j + 5 < L) (hl : lv_has ls 4 [(0, .ref b), (1, .ref (adC 0)), (2, .ref (adR 0)), (3, .int (nI j))]) (hw : Wd D G (fun q : Nat => s.heap.size ≤ q) s.heap adC layC (encA adR G hr 0 layR) hc s H locs) (hop : ∃ (v : Int32), c_X11_excuse (xs (nI j + 1).toNatClampNeg) (xs (nI j + 2).toNatClampNeg) hc = some v ∧ c_X12_excuse (xs (nI j + 1).toNatClampNeg) (xs (nI j + 2).toNatClampNeg) hr = some v ∧ J hc hr) (kk : ∀ (hc' hr' : PH) (H : Heap) (locs : List Loc), J hc' hr' → Wd D G (fun q : Nat => s.heap.size ≤ q) s.heap adC layC (encA adR G hr' 0 layR) hc' s H locs → W p l e room_1 s m #[Value.ref b] below meth c H locs cells slots Q (F0 m 1235 ls [])) : W p l e room_1 s m #[Value.ref b] below meth c H locs cells slots Q (F0 m 325 ls []) := by
  obtain ⟨v, hF1, hF2, hJ⟩ := hop
  refine lv_aload_n hM.1 hM.2.1 dL_law_325 rfl (lv_at hl 1 rfl) ?_
  refine lv_aload_n hM.1 hM.2.1 dL_law_326 rfl (lv_at hl 0 rfl) ?_
  refine lv_iload_n hM.1 hM.2.1 dL_law_327 rfl (lv_at hl 3 rfl) ?_
  refine lv_iconst (v := 1) hM.1 hM.2.1 dL_law_328 ic_1 ?_
  refine lv_iadd hM.1 hM.2.1 dL_law_329 ?_
  refine va_sld hM.1 hM.2.1 hX hbl (Nat.not_le.mpr hbl) hw.2.2.2.1 (sc_in (d := 1) rfl (by omega) hL) dL_law_330 ?_
  refine lv_aload_n hM.1 hM.2.1 dL_law_331 rfl (lv_at hl 0 rfl) ?_
  refine lv_iload_n hM.1 hM.2.1 dL_law_332 rfl (lv_at hl 3 rfl) ?_
  refine lv_iconst (v := 2) hM.1 hM.2.1 dL_law_333 ic_2 ?_
  refine lv_iadd hM.1 hM.2.1 dL_law_334 ?_
  refine va_sld hM.1 hM.2.1 hX hbl (Nat.not_le.mpr hbl) hw.2.2.2.1 (sc_in (d := 2) rfl (by omega) hL) dL_law_335 ?_
  refine y_callVI (rest := []) hM hw (ct_X11_excuse l oC (xs (nI j + 1).toNatClampNeg) (xs (nI j + 2).toNatClampNeg)) [.int (xs (nI j + 1).toNatClampNeg), .int (xs (nI j + 2).toNatClampNeg)] (okX11.o oC) rfl rfl rfl (gi_V ml_L_37 im_X11_excuse sl_X11_excuse in_X11 kc_X11_excuse) hd_X11_excuse rfl ⟨Nat.le_of_ble_eq_true rfl, Nat.le_of_ble_eq_true rfl⟩ rfl (Nat.le_of_ble_eq_true rfl) hl.1 (rd_mk hF1) hcs dL_law_336 (fun H locs hw => ?_)
  refine lv_aload_n hM.1 hM.2.1 dL_law_339 rfl (lv_at hl 2 rfl) ?_
  refine lv_aload_n hM.1 hM.2.1 dL_law_340 rfl (lv_at hl 0 rfl) ?_
  refine lv_iload_n hM.1 hM.2.1 dL_law_341 rfl (lv_at hl 3 rfl) ?_
  refine lv_iconst (v := 1) hM.1 hM.2.1 dL_law_342 ic_1 ?_
  refine lv_iadd hM.1 hM.2.1 dL_law_343 ?_
  refine va_sld hM.1 hM.2.1 hX hbl (Nat.not_le.mpr hbl) hw.2.2.2.1 (sc_in (d := 1) rfl (by omega) hL) dL_law_344 ?_
  refine lv_aload_n hM.1 hM.2.1 dL_law_345 rfl (lv_at hl 0 rfl) ?_
  refine lv_iload_n hM.1 hM.2.1 dL_law_346 rfl (lv_at hl 3 rfl) ?_
  refine lv_iconst (v := 2) hM.1 hM.2.1 dL_law_347 ic_2 ?_
  refine lv_iadd hM.1 hM.2.1 dL_law_348 ?_
  refine va_sld hM.1 hM.2.1 hX hbl (Nat.not_le.mpr hbl) hw.2.2.2.1 (sc_in (d := 2) rfl (by omega) hL) dL_law_349 ?_
  have hw := wd_swap hw
  refine y_callVI (rest := [.int v]) hM hw (ct_X12_excuse l oR (xs (nI j + 1).toNatClampNeg) (xs (nI j + 2).toNatClampNeg)) [.int (xs (nI j + 1).toNatClampNeg), .int (xs (nI j + 2).toNatClampNeg)] (okX12.o oR) rfl rfl rfl (gi_V ml_L_40 im_X12_excuse sl_X12_excuse in_X12 kc_X12_excuse) hd_X12_excuse rfl ⟨Nat.le_of_ble_eq_true rfl, Nat.le_of_ble_eq_true rfl⟩ rfl (Nat.le_of_ble_eq_true rfl) hl.1 (rd_mk hF2) hcs dL_law_350 (fun H locs hw => ?_)
  have hw := wd_swap hw
  refine lv_icmp_eq (tgt := 1235) hM.1 hM.2.1 dL_law_353 (by decide) (fun _ => ?_) (fun q => absurd rfl q)
  exact kk _ _ H locs hJ hw
set_option maxHeartbeats 4000000 in
set_option maxRecDepth 100000 in
theorem law_c6 {p : Program} {l : Launch} {e : Env} {s : State} {m : MethodId} {below : List Frame} {meth : Method} {c : Code} {Q : State → Prop} {D : va_G} {G : GG} {adC adR : Nat → Nat} {layC layR : List KK} {b L j : Nat} {xs : Nat → Int32} {hc hr : PH} {H : Heap} {locs : List Loc} {ls : Array Slot} {cells slots : Nat} {J : PH → PH → Prop} (hM : CallFix p m c cL_law 4 s #[Value.ref b] lw_g RL) (hX : va_X b L xs s s.heap) (hbl : b < s.heap.size) (hcs : cells ≤ room_1.cells ∧ slots ≤ room_1.slots) (oC : okX11 layC) (oR : okX12 layR) (hL : L ≤ 3072) (hj : j + 5 < L) (hl : lv_has ls 4 [(0, .ref b), (1, .ref (adC 0)), (2, .ref (adR 0)), (3, .int (nI j))]) (hw : Wd D G (fun q : Nat => s.heap.size ≤ q) s.heap adC layC (encA adR G hr 0 layR) hc s H locs) (hop : ∃ (v : Int32), c_X11_duty (xs (nI j + 1).toNatClampNeg) (xs (nI j + 2).toNatClampNeg) hc = some v ∧ c_X12_duty (xs (nI j + 1).toNatClampNeg) (xs (nI j + 2).toNatClampNeg) hr = some v ∧ J hc hr) (kk : ∀ (hc' hr' : PH) (H : Heap) (locs : List Loc), J hc' hr' → Wd D G (fun q : Nat => s.heap.size ≤ q) s.heap adC layC (encA adR G hr' 0 layR) hc' s H locs → W p l e room_1 s m #[Value.ref b] below meth c H locs cells slots Q (F0 m 1235 ls [])) : W p l e room_1 s m #[Value.ref b] below meth c H locs cells slots Q (F0 m 358 ls []) := by
  obtain ⟨v, hF1, hF2, hJ⟩ := hop
  refine lv_aload_n hM.1 hM.2.1 dL_law_358 rfl (lv_at hl 1 rfl) ?_
  refine lv_aload_n hM.1 hM.2.1 dL_law_359 rfl (lv_at hl 0 rfl) ?_
  refine lv_iload_n hM.1 hM.2.1 dL_law_360 rfl (lv_at hl 3 rfl) ?_
  refine lv_iconst (v := 1) hM.1 hM.2.1 dL_law_361 ic_1 ?_
  refine lv_iadd hM.1 hM.2.1 dL_law_362 ?_
  refine va_sld hM.1 hM.2.1 hX hbl (Nat.not_le.mpr hbl) hw.2.2.2.1 (sc_in (d := 1) rfl (by omega) hL) dL_law_363 ?_
  refine lv_aload_n hM.1 hM.2.1 dL_law_364 rfl (lv_at hl 0 rfl) ?_
  refine lv_iload_n hM.1 hM.2.1 dL_law_365 rfl (lv_at hl 3 rfl) ?_
  refine lv_iconst (v := 2) hM.1 hM.2.1 dL_law_366 ic_2 ?_
  refine lv_iadd hM.1 hM.2.1 dL_law_367 ?_
  refine va_sld hM.1 hM.2.1 hX hbl (Nat.not_le.mpr hbl) hw.2.2.2.1 (sc_in (d := 2) rfl (by omega) hL) dL_law_368 ?_
  refine y_callVI (rest := []) hM hw (ct_X11_duty l oC (xs (nI j + 1).toNatClampNeg) (xs (nI j + 2).toNatClampNeg)) [.int (xs (nI j + 1).toNatClampNeg), .int (xs (nI j + 2).toNatClampNeg)] (okX11.o oC) rfl rfl rfl (gi_V ml_L_41 im_X11_duty sl_X11_duty in_X11 kc_X11_duty) hd_X11_duty rfl ⟨Nat.le_of_ble_eq_true rfl, Nat.le_of_ble_eq_true rfl⟩ rfl (Nat.le_of_ble_eq_true rfl) hl.1 (rd_mk hF1) hcs dL_law_369 (fun H locs hw => ?_)
  refine lv_aload_n hM.1 hM.2.1 dL_law_372 rfl (lv_at hl 2 rfl) ?_
  refine lv_aload_n hM.1 hM.2.1 dL_law_373 rfl (lv_at hl 0 rfl) ?_
  refine lv_iload_n hM.1 hM.2.1 dL_law_374 rfl (lv_at hl 3 rfl) ?_
  refine lv_iconst (v := 1) hM.1 hM.2.1 dL_law_375 ic_1 ?_
  refine lv_iadd hM.1 hM.2.1 dL_law_376 ?_
  refine va_sld hM.1 hM.2.1 hX hbl (Nat.not_le.mpr hbl) hw.2.2.2.1 (sc_in (d := 1) rfl (by omega) hL) dL_law_377 ?_
  refine lv_aload_n hM.1 hM.2.1 dL_law_378 rfl (lv_at hl 0 rfl) ?_
  refine lv_iload_n hM.1 hM.2.1 dL_law_379 rfl (lv_at hl 3 rfl) ?_
  refine lv_iconst (v := 2) hM.1 hM.2.1 dL_law_380 ic_2 ?_
  refine lv_iadd hM.1 hM.2.1 dL_law_381 ?_
  refine va_sld hM.1 hM.2.1 hX hbl (Nat.not_le.mpr hbl) hw.2.2.2.1 (sc_in (d := 2) rfl (by omega) hL) dL_law_382 ?_
  have hw := wd_swap hw
  refine y_callVI (rest := [.int v]) hM hw (ct_X12_duty l oR (xs (nI j + 1).toNatClampNeg) (xs (nI j + 2).toNatClampNeg)) [.int (xs (nI j + 1).toNatClampNeg), .int (xs (nI j + 2).toNatClampNeg)] (okX12.o oR) rfl rfl rfl (gi_V ml_L_44 im_X12_duty sl_X12_duty in_X12 kc_X12_duty) hd_X12_duty rfl ⟨Nat.le_of_ble_eq_true rfl, Nat.le_of_ble_eq_true rfl⟩ rfl (Nat.le_of_ble_eq_true rfl) hl.1 (rd_mk hF2) hcs dL_law_383 (fun H locs hw => ?_)
  have hw := wd_swap hw
  refine lv_icmp_eq (tgt := 1235) hM.1 hM.2.1 dL_law_386 (by decide) (fun _ => ?_) (fun q => absurd rfl q)
  exact kk _ _ H locs hJ hw
set_option maxHeartbeats 4000000 in
set_option maxRecDepth 100000 in
theorem law_c7 {p : Program} {l : Launch} {e : Env} {s : State} {m : MethodId} {below : List Frame} {meth : Method} {c : Code} {Q : State → Prop} {D : va_G} {G : GG} {adC adR : Nat → Nat} {layC layR : List KK} {b L j : Nat} {xs : Nat → Int32} {hc hr : PH} {H : Heap} {locs : List Loc} {ls : Array Slot} {cells slots : Nat} {J : PH → PH → Prop} (hM : CallFix p m c cL_law 4 s #[Value.ref b] lw_g RL) (hX : va_X b L xs s s.heap) (hbl : b < s.heap.size) (hcs : cells ≤ room_1.cells ∧ slots ≤ room_1.slots) (oC : okX11 layC) (oR : okX12 layR) (hL : L ≤ 3072) (hj : j + 5 < L) (hl : lv_has ls 4 [(0, .ref b), (1, .ref (adC 0)), (2, .ref (adR 0)), (3, .int (nI j))]) (hw : Wd D G (fun q : Nat => s.heap.size ≤ q) s.heap adC layC (encA adR G hr 0 layR) hc s H locs) (hop : ∃ (v : Int32) (hr' : PH), c_X11_told (xs (nI j + 1).toNatClampNeg) (xs (nI j + 2).toNatClampNeg) (if (xs (nI j + 3).toNatClampNeg) = 0 then 0 else 1) hc = some v ∧ c_X12_told (xs (nI j + 1).toNatClampNeg) (xs (nI j + 2).toNatClampNeg) (if (xs (nI j + 3).toNatClampNeg) = 0 then 0 else 1) hr = some (v, hr') ∧ J hc hr') (kk : ∀ (hc' hr' : PH) (H : Heap) (locs : List Loc), J hc' hr' → Wd D G (fun q : Nat => s.heap.size ≤ q) s.heap adC layC (encA adR G hr' 0 layR) hc' s H locs → W p l e room_1 s m #[Value.ref b] below meth c H locs cells slots Q (F0 m 1235 ls [])) : W p l e room_1 s m #[Value.ref b] below meth c H locs cells slots Q (F0 m 391 ls []) := by
  by_cases hz : (xs (nI j + 3).toNatClampNeg) = 0
  · rw [if_pos hz] at hop
    obtain ⟨v, hr', hF1, hF2, hJ⟩ := hop
    refine lv_aload_n hM.1 hM.2.1 dL_law_391 rfl (lv_at hl 1 rfl) ?_
    refine lv_aload_n hM.1 hM.2.1 dL_law_392 rfl (lv_at hl 0 rfl) ?_
    refine lv_iload_n hM.1 hM.2.1 dL_law_393 rfl (lv_at hl 3 rfl) ?_
    refine lv_iconst (v := 1) hM.1 hM.2.1 dL_law_394 ic_1 ?_
    refine lv_iadd hM.1 hM.2.1 dL_law_395 ?_
    refine va_sld hM.1 hM.2.1 hX hbl (Nat.not_le.mpr hbl) hw.2.2.2.1 (sc_in (d := 1) rfl (by omega) hL) dL_law_396 ?_
    refine lv_aload_n hM.1 hM.2.1 dL_law_397 rfl (lv_at hl 0 rfl) ?_
    refine lv_iload_n hM.1 hM.2.1 dL_law_398 rfl (lv_at hl 3 rfl) ?_
    refine lv_iconst (v := 2) hM.1 hM.2.1 dL_law_399 ic_2 ?_
    refine lv_iadd hM.1 hM.2.1 dL_law_400 ?_
    refine va_sld hM.1 hM.2.1 hX hbl (Nat.not_le.mpr hbl) hw.2.2.2.1 (sc_in (d := 2) rfl (by omega) hL) dL_law_401 ?_
    refine lv_aload_n hM.1 hM.2.1 dL_law_402 rfl (lv_at hl 0 rfl) ?_
    refine lv_iload_n hM.1 hM.2.1 dL_law_403 rfl (lv_at hl 3 rfl) ?_
    refine lv_iconst (v := 3) hM.1 hM.2.1 dL_law_404 ic_3 ?_
    refine lv_iadd hM.1 hM.2.1 dL_law_405 ?_
    refine va_sld hM.1 hM.2.1 hX hbl (Nat.not_le.mpr hbl) hw.2.2.2.1 (sc_in (d := 3) rfl (by omega) hL) dL_law_406 ?_
    refine lv_if_eq (tgt := 414) hM.1 hM.2.1 dL_law_407 (by decide) (fun _ => ?_) (fun q => absurd hz q)
    refine lv_iconst (v := 0) hM.1 hM.2.1 dL_law_414 ic_0 ?_
    refine y_callVI (rest := []) hM hw (ct_X11_told l oC (xs (nI j + 1).toNatClampNeg) (xs (nI j + 2).toNatClampNeg) 0) [.int (xs (nI j + 1).toNatClampNeg), .int (xs (nI j + 2).toNatClampNeg), .int 0] (okX11.o oC) rfl rfl rfl (gi_V ml_L_45 im_X11_told sl_X11_told in_X11 kc_X11_told) hd_X11_told rfl ⟨Nat.le_of_ble_eq_true rfl, Nat.le_of_ble_eq_true rfl⟩ rfl (Nat.le_of_ble_eq_true rfl) hl.1 (rd_mk hF1) hcs dL_law_415 (fun H locs hw => ?_)
    refine lv_aload_n hM.1 hM.2.1 dL_law_418 rfl (lv_at hl 2 rfl) ?_
    refine lv_aload_n hM.1 hM.2.1 dL_law_419 rfl (lv_at hl 0 rfl) ?_
    refine lv_iload_n hM.1 hM.2.1 dL_law_420 rfl (lv_at hl 3 rfl) ?_
    refine lv_iconst (v := 1) hM.1 hM.2.1 dL_law_421 ic_1 ?_
    refine lv_iadd hM.1 hM.2.1 dL_law_422 ?_
    refine va_sld hM.1 hM.2.1 hX hbl (Nat.not_le.mpr hbl) hw.2.2.2.1 (sc_in (d := 1) rfl (by omega) hL) dL_law_423 ?_
    refine lv_aload_n hM.1 hM.2.1 dL_law_424 rfl (lv_at hl 0 rfl) ?_
    refine lv_iload_n hM.1 hM.2.1 dL_law_425 rfl (lv_at hl 3 rfl) ?_
    refine lv_iconst (v := 2) hM.1 hM.2.1 dL_law_426 ic_2 ?_
    refine lv_iadd hM.1 hM.2.1 dL_law_427 ?_
    refine va_sld hM.1 hM.2.1 hX hbl (Nat.not_le.mpr hbl) hw.2.2.2.1 (sc_in (d := 2) rfl (by omega) hL) dL_law_428 ?_
    refine lv_aload_n hM.1 hM.2.1 dL_law_429 rfl (lv_at hl 0 rfl) ?_
    refine lv_iload_n hM.1 hM.2.1 dL_law_430 rfl (lv_at hl 3 rfl) ?_
    refine lv_iconst (v := 3) hM.1 hM.2.1 dL_law_431 ic_3 ?_
    refine lv_iadd hM.1 hM.2.1 dL_law_432 ?_
    refine va_sld hM.1 hM.2.1 hX hbl (Nat.not_le.mpr hbl) hw.2.2.2.1 (sc_in (d := 3) rfl (by omega) hL) dL_law_433 ?_
    refine lv_if_eq (tgt := 441) hM.1 hM.2.1 dL_law_434 (by decide) (fun _ => ?_) (fun q => absurd hz q)
    refine lv_iconst (v := 0) hM.1 hM.2.1 dL_law_441 ic_0 ?_
    have hw := wd_swap hw
    refine y_callVI (rest := [.int v]) hM hw (ct_X12_told l oR (xs (nI j + 1).toNatClampNeg) (xs (nI j + 2).toNatClampNeg) 0) [.int (xs (nI j + 1).toNatClampNeg), .int (xs (nI j + 2).toNatClampNeg), .int 0] (okX12.o oR) rfl rfl rfl (gi_V ml_L_49 im_X12_told sl_X12_told in_X12 kc_X12_told) hd_X12_told rfl ⟨Nat.le_of_ble_eq_true rfl, Nat.le_of_ble_eq_true rfl⟩ rfl (Nat.le_of_ble_eq_true rfl) hl.1 hF2 hcs dL_law_442 (fun H locs hw => ?_)
    have hw := wd_swap hw
    refine lv_icmp_eq (tgt := 1235) hM.1 hM.2.1 dL_law_445 (by decide) (fun _ => ?_) (fun q => absurd rfl q)
    exact kk _ _ H locs hJ hw
  · rw [if_neg hz] at hop
    obtain ⟨v, hr', hF1, hF2, hJ⟩ := hop
    refine lv_aload_n hM.1 hM.2.1 dL_law_391 rfl (lv_at hl 1 rfl) ?_
    refine lv_aload_n hM.1 hM.2.1 dL_law_392 rfl (lv_at hl 0 rfl) ?_
    refine lv_iload_n hM.1 hM.2.1 dL_law_393 rfl (lv_at hl 3 rfl) ?_
    refine lv_iconst (v := 1) hM.1 hM.2.1 dL_law_394 ic_1 ?_
    refine lv_iadd hM.1 hM.2.1 dL_law_395 ?_
    refine va_sld hM.1 hM.2.1 hX hbl (Nat.not_le.mpr hbl) hw.2.2.2.1 (sc_in (d := 1) rfl (by omega) hL) dL_law_396 ?_
    refine lv_aload_n hM.1 hM.2.1 dL_law_397 rfl (lv_at hl 0 rfl) ?_
    refine lv_iload_n hM.1 hM.2.1 dL_law_398 rfl (lv_at hl 3 rfl) ?_
    refine lv_iconst (v := 2) hM.1 hM.2.1 dL_law_399 ic_2 ?_
    refine lv_iadd hM.1 hM.2.1 dL_law_400 ?_
    refine va_sld hM.1 hM.2.1 hX hbl (Nat.not_le.mpr hbl) hw.2.2.2.1 (sc_in (d := 2) rfl (by omega) hL) dL_law_401 ?_
    refine lv_aload_n hM.1 hM.2.1 dL_law_402 rfl (lv_at hl 0 rfl) ?_
    refine lv_iload_n hM.1 hM.2.1 dL_law_403 rfl (lv_at hl 3 rfl) ?_
    refine lv_iconst (v := 3) hM.1 hM.2.1 dL_law_404 ic_3 ?_
    refine lv_iadd hM.1 hM.2.1 dL_law_405 ?_
    refine va_sld hM.1 hM.2.1 hX hbl (Nat.not_le.mpr hbl) hw.2.2.2.1 (sc_in (d := 3) rfl (by omega) hL) dL_law_406 ?_
    refine lv_if_eq (tgt := 414) hM.1 hM.2.1 dL_law_407 (by decide) (fun q => absurd q hz) (fun _ => ?_)
    refine lv_iconst (v := 1) hM.1 hM.2.1 dL_law_410 ic_1 ?_
    refine lv_goto (tgt := 415) hM.1 hM.2.1 dL_law_411 (by decide) ?_
    refine y_callVI (rest := []) hM hw (ct_X11_told l oC (xs (nI j + 1).toNatClampNeg) (xs (nI j + 2).toNatClampNeg) 1) [.int (xs (nI j + 1).toNatClampNeg), .int (xs (nI j + 2).toNatClampNeg), .int 1] (okX11.o oC) rfl rfl rfl (gi_V ml_L_45 im_X11_told sl_X11_told in_X11 kc_X11_told) hd_X11_told rfl ⟨Nat.le_of_ble_eq_true rfl, Nat.le_of_ble_eq_true rfl⟩ rfl (Nat.le_of_ble_eq_true rfl) hl.1 (rd_mk hF1) hcs dL_law_415 (fun H locs hw => ?_)
    refine lv_aload_n hM.1 hM.2.1 dL_law_418 rfl (lv_at hl 2 rfl) ?_
    refine lv_aload_n hM.1 hM.2.1 dL_law_419 rfl (lv_at hl 0 rfl) ?_
    refine lv_iload_n hM.1 hM.2.1 dL_law_420 rfl (lv_at hl 3 rfl) ?_
    refine lv_iconst (v := 1) hM.1 hM.2.1 dL_law_421 ic_1 ?_
    refine lv_iadd hM.1 hM.2.1 dL_law_422 ?_
    refine va_sld hM.1 hM.2.1 hX hbl (Nat.not_le.mpr hbl) hw.2.2.2.1 (sc_in (d := 1) rfl (by omega) hL) dL_law_423 ?_
    refine lv_aload_n hM.1 hM.2.1 dL_law_424 rfl (lv_at hl 0 rfl) ?_
    refine lv_iload_n hM.1 hM.2.1 dL_law_425 rfl (lv_at hl 3 rfl) ?_
    refine lv_iconst (v := 2) hM.1 hM.2.1 dL_law_426 ic_2 ?_
    refine lv_iadd hM.1 hM.2.1 dL_law_427 ?_
    refine va_sld hM.1 hM.2.1 hX hbl (Nat.not_le.mpr hbl) hw.2.2.2.1 (sc_in (d := 2) rfl (by omega) hL) dL_law_428 ?_
    refine lv_aload_n hM.1 hM.2.1 dL_law_429 rfl (lv_at hl 0 rfl) ?_
    refine lv_iload_n hM.1 hM.2.1 dL_law_430 rfl (lv_at hl 3 rfl) ?_
    refine lv_iconst (v := 3) hM.1 hM.2.1 dL_law_431 ic_3 ?_
    refine lv_iadd hM.1 hM.2.1 dL_law_432 ?_
    refine va_sld hM.1 hM.2.1 hX hbl (Nat.not_le.mpr hbl) hw.2.2.2.1 (sc_in (d := 3) rfl (by omega) hL) dL_law_433 ?_
    refine lv_if_eq (tgt := 441) hM.1 hM.2.1 dL_law_434 (by decide) (fun q => absurd q hz) (fun _ => ?_)
    refine lv_iconst (v := 1) hM.1 hM.2.1 dL_law_437 ic_1 ?_
    refine lv_goto (tgt := 442) hM.1 hM.2.1 dL_law_438 (by decide) ?_
    have hw := wd_swap hw
    refine y_callVI (rest := [.int v]) hM hw (ct_X12_told l oR (xs (nI j + 1).toNatClampNeg) (xs (nI j + 2).toNatClampNeg) 1) [.int (xs (nI j + 1).toNatClampNeg), .int (xs (nI j + 2).toNatClampNeg), .int 1] (okX12.o oR) rfl rfl rfl (gi_V ml_L_49 im_X12_told sl_X12_told in_X12 kc_X12_told) hd_X12_told rfl ⟨Nat.le_of_ble_eq_true rfl, Nat.le_of_ble_eq_true rfl⟩ rfl (Nat.le_of_ble_eq_true rfl) hl.1 hF2 hcs dL_law_442 (fun H locs hw => ?_)
    have hw := wd_swap hw
    refine lv_icmp_eq (tgt := 1235) hM.1 hM.2.1 dL_law_445 (by decide) (fun _ => ?_) (fun q => absurd rfl q)
    exact kk _ _ H locs hJ hw
set_option maxHeartbeats 4000000 in
set_option maxRecDepth 100000 in
theorem law_c8 {p : Program} {l : Launch} {e : Env} {s : State} {m : MethodId} {below : List Frame} {meth : Method} {c : Code} {Q : State → Prop} {D : va_G} {G : GG} {adC adR : Nat → Nat} {layC layR : List KK} {b L j : Nat} {xs : Nat → Int32} {hc hr : PH} {H : Heap} {locs : List Loc} {ls : Array Slot} {cells slots : Nat} {J : PH → PH → Prop} (hM : CallFix p m c cL_law 4 s #[Value.ref b] lw_g RL) (hX : va_X b L xs s s.heap) (hbl : b < s.heap.size) (hcs : cells ≤ room_1.cells ∧ slots ≤ room_1.slots) (oC : okX11 layC) (oR : okX12 layR) (hL : L ≤ 3072) (hj : j + 5 < L) (hl : lv_has ls 4 [(0, .ref b), (1, .ref (adC 0)), (2, .ref (adR 0)), (3, .int (nI j))]) (hw : Wd D G (fun q : Nat => s.heap.size ≤ q) s.heap adC layC (encA adR G hr 0 layR) hc s H locs) (hop : ∃ (v : Int32) (hr' : PH), c_X11_rains (xs (nI j + 1).toNatClampNeg) hc = some v ∧ c_X12_rains (xs (nI j + 1).toNatClampNeg) hr = some (v, hr') ∧ J hc hr') (kk : ∀ (hc' hr' : PH) (H : Heap) (locs : List Loc), J hc' hr' → Wd D G (fun q : Nat => s.heap.size ≤ q) s.heap adC layC (encA adR G hr' 0 layR) hc' s H locs → W p l e room_1 s m #[Value.ref b] below meth c H locs cells slots Q (F0 m 1235 ls [])) : W p l e room_1 s m #[Value.ref b] below meth c H locs cells slots Q (F0 m 450 ls []) := by
  obtain ⟨v, hr', hF1, hF2, hJ⟩ := hop
  refine lv_aload_n hM.1 hM.2.1 dL_law_450 rfl (lv_at hl 1 rfl) ?_
  refine lv_aload_n hM.1 hM.2.1 dL_law_451 rfl (lv_at hl 0 rfl) ?_
  refine lv_iload_n hM.1 hM.2.1 dL_law_452 rfl (lv_at hl 3 rfl) ?_
  refine lv_iconst (v := 1) hM.1 hM.2.1 dL_law_453 ic_1 ?_
  refine lv_iadd hM.1 hM.2.1 dL_law_454 ?_
  refine va_sld hM.1 hM.2.1 hX hbl (Nat.not_le.mpr hbl) hw.2.2.2.1 (sc_in (d := 1) rfl (by omega) hL) dL_law_455 ?_
  refine y_callVI (rest := []) hM hw (ct_X11_rains l oC (xs (nI j + 1).toNatClampNeg)) [.int (xs (nI j + 1).toNatClampNeg)] (okX11.o oC) rfl rfl rfl (gi_V ml_L_50 im_X11_rains sl_X11_rains in_X11 kc_X11_rains) hd_X11_rains rfl ⟨Nat.le_of_ble_eq_true rfl, Nat.le_of_ble_eq_true rfl⟩ rfl (Nat.le_of_ble_eq_true rfl) hl.1 (rd_mk hF1) hcs dL_law_456 (fun H locs hw => ?_)
  refine lv_aload_n hM.1 hM.2.1 dL_law_459 rfl (lv_at hl 2 rfl) ?_
  refine lv_aload_n hM.1 hM.2.1 dL_law_460 rfl (lv_at hl 0 rfl) ?_
  refine lv_iload_n hM.1 hM.2.1 dL_law_461 rfl (lv_at hl 3 rfl) ?_
  refine lv_iconst (v := 1) hM.1 hM.2.1 dL_law_462 ic_1 ?_
  refine lv_iadd hM.1 hM.2.1 dL_law_463 ?_
  refine va_sld hM.1 hM.2.1 hX hbl (Nat.not_le.mpr hbl) hw.2.2.2.1 (sc_in (d := 1) rfl (by omega) hL) dL_law_464 ?_
  have hw := wd_swap hw
  refine y_callVI (rest := [.int v]) hM hw (ct_X12_rains l oR (xs (nI j + 1).toNatClampNeg)) [.int (xs (nI j + 1).toNatClampNeg)] (okX12.o oR) rfl rfl rfl (gi_V ml_L_53 im_X12_rains sl_X12_rains in_X12 kc_X12_rains) hd_X12_rains rfl ⟨Nat.le_of_ble_eq_true rfl, Nat.le_of_ble_eq_true rfl⟩ rfl (Nat.le_of_ble_eq_true rfl) hl.1 hF2 hcs dL_law_465 (fun H locs hw => ?_)
  have hw := wd_swap hw
  refine lv_icmp_eq (tgt := 1235) hM.1 hM.2.1 dL_law_468 (by decide) (fun _ => ?_) (fun q => absurd rfl q)
  exact kk _ _ H locs hJ hw
set_option maxHeartbeats 4000000 in
set_option maxRecDepth 100000 in
theorem law_c9 {p : Program} {l : Launch} {e : Env} {s : State} {m : MethodId} {below : List Frame} {meth : Method} {c : Code} {Q : State → Prop} {D : va_G} {G : GG} {adC adR : Nat → Nat} {layC layR : List KK} {b L j : Nat} {xs : Nat → Int32} {hc hr : PH} {H : Heap} {locs : List Loc} {ls : Array Slot} {cells slots : Nat} {J : PH → PH → Prop} (hM : CallFix p m c cL_law 4 s #[Value.ref b] lw_g RL) (hX : va_X b L xs s s.heap) (hbl : b < s.heap.size) (hcs : cells ≤ room_1.cells ∧ slots ≤ room_1.slots) (oC : okX11 layC) (oR : okX12 layR) (hL : L ≤ 3072) (hj : j + 5 < L) (hl : lv_has ls 4 [(0, .ref b), (1, .ref (adC 0)), (2, .ref (adR 0)), (3, .int (nI j))]) (hw : Wd D G (fun q : Nat => s.heap.size ≤ q) s.heap adC layC (encA adR G hr 0 layR) hc s H locs) (hop : ∃ (v : Int32) (hc' : PH) (hr' : PH), c_X11_buy (xs (nI j + 1).toNatClampNeg) hc = some (v, hc') ∧ c_X12_buy (xs (nI j + 1).toNatClampNeg) hr = some (v, hr') ∧ J hc' hr') (kk : ∀ (hc' hr' : PH) (H : Heap) (locs : List Loc), J hc' hr' → Wd D G (fun q : Nat => s.heap.size ≤ q) s.heap adC layC (encA adR G hr' 0 layR) hc' s H locs → W p l e room_1 s m #[Value.ref b] below meth c H locs cells slots Q (F0 m 1235 ls [])) : W p l e room_1 s m #[Value.ref b] below meth c H locs cells slots Q (F0 m 473 ls []) := by
  obtain ⟨v, hc', hr', hF1, hF2, hJ⟩ := hop
  refine lv_aload_n hM.1 hM.2.1 dL_law_473 rfl (lv_at hl 1 rfl) ?_
  refine lv_aload_n hM.1 hM.2.1 dL_law_474 rfl (lv_at hl 0 rfl) ?_
  refine lv_iload_n hM.1 hM.2.1 dL_law_475 rfl (lv_at hl 3 rfl) ?_
  refine lv_iconst (v := 1) hM.1 hM.2.1 dL_law_476 ic_1 ?_
  refine lv_iadd hM.1 hM.2.1 dL_law_477 ?_
  refine va_sld hM.1 hM.2.1 hX hbl (Nat.not_le.mpr hbl) hw.2.2.2.1 (sc_in (d := 1) rfl (by omega) hL) dL_law_478 ?_
  refine y_callVI (rest := []) hM hw (ct_X11_buy l oC (xs (nI j + 1).toNatClampNeg)) [.int (xs (nI j + 1).toNatClampNeg)] (okX11.o oC) rfl rfl rfl (gi_V ml_L_54 im_X11_buy sl_X11_buy in_X11 kc_X11_buy) hd_X11_buy rfl ⟨Nat.le_of_ble_eq_true rfl, Nat.le_of_ble_eq_true rfl⟩ rfl (Nat.le_of_ble_eq_true rfl) hl.1 hF1 hcs dL_law_479 (fun H locs hw => ?_)
  refine lv_aload_n hM.1 hM.2.1 dL_law_482 rfl (lv_at hl 2 rfl) ?_
  refine lv_aload_n hM.1 hM.2.1 dL_law_483 rfl (lv_at hl 0 rfl) ?_
  refine lv_iload_n hM.1 hM.2.1 dL_law_484 rfl (lv_at hl 3 rfl) ?_
  refine lv_iconst (v := 1) hM.1 hM.2.1 dL_law_485 ic_1 ?_
  refine lv_iadd hM.1 hM.2.1 dL_law_486 ?_
  refine va_sld hM.1 hM.2.1 hX hbl (Nat.not_le.mpr hbl) hw.2.2.2.1 (sc_in (d := 1) rfl (by omega) hL) dL_law_487 ?_
  have hw := wd_swap hw
  refine y_callVI (rest := [.int v]) hM hw (ct_X12_buy l oR (xs (nI j + 1).toNatClampNeg)) [.int (xs (nI j + 1).toNatClampNeg)] (okX12.o oR) rfl rfl rfl (gi_V ml_L_57 im_X12_buy sl_X12_buy in_X12 kc_X12_buy) hd_X12_buy rfl ⟨Nat.le_of_ble_eq_true rfl, Nat.le_of_ble_eq_true rfl⟩ rfl (Nat.le_of_ble_eq_true rfl) hl.1 hF2 hcs dL_law_488 (fun H locs hw => ?_)
  have hw := wd_swap hw
  refine lv_icmp_eq (tgt := 1235) hM.1 hM.2.1 dL_law_491 (by decide) (fun _ => ?_) (fun q => absurd rfl q)
  exact kk _ _ H locs hJ hw
set_option maxHeartbeats 4000000 in
set_option maxRecDepth 100000 in
theorem law_c10 {p : Program} {l : Launch} {e : Env} {s : State} {m : MethodId} {below : List Frame} {meth : Method} {c : Code} {Q : State → Prop} {D : va_G} {G : GG} {adC adR : Nat → Nat} {layC layR : List KK} {b L j : Nat} {xs : Nat → Int32} {hc hr : PH} {H : Heap} {locs : List Loc} {ls : Array Slot} {cells slots : Nat} {J : PH → PH → Prop} (hM : CallFix p m c cL_law 4 s #[Value.ref b] lw_g RL) (hX : va_X b L xs s s.heap) (hbl : b < s.heap.size) (hcs : cells ≤ room_1.cells ∧ slots ≤ room_1.slots) (oC : okX11 layC) (oR : okX12 layR) (hL : L ≤ 3072) (hj : j + 5 < L) (hl : lv_has ls 4 [(0, .ref b), (1, .ref (adC 0)), (2, .ref (adR 0)), (3, .int (nI j))]) (hw : Wd D G (fun q : Nat => s.heap.size ≤ q) s.heap adC layC (encA adR G hr 0 layR) hc s H locs) (hop : ∃ (v : Int32) (hc' : PH) (hr' : PH), c_X11_sell (xs (nI j + 1).toNatClampNeg) hc = some (v, hc') ∧ c_X12_sell (xs (nI j + 1).toNatClampNeg) hr = some (v, hr') ∧ J hc' hr') (kk : ∀ (hc' hr' : PH) (H : Heap) (locs : List Loc), J hc' hr' → Wd D G (fun q : Nat => s.heap.size ≤ q) s.heap adC layC (encA adR G hr' 0 layR) hc' s H locs → W p l e room_1 s m #[Value.ref b] below meth c H locs cells slots Q (F0 m 1235 ls [])) : W p l e room_1 s m #[Value.ref b] below meth c H locs cells slots Q (F0 m 496 ls []) := by
  obtain ⟨v, hc', hr', hF1, hF2, hJ⟩ := hop
  refine lv_aload_n hM.1 hM.2.1 dL_law_496 rfl (lv_at hl 1 rfl) ?_
  refine lv_aload_n hM.1 hM.2.1 dL_law_497 rfl (lv_at hl 0 rfl) ?_
  refine lv_iload_n hM.1 hM.2.1 dL_law_498 rfl (lv_at hl 3 rfl) ?_
  refine lv_iconst (v := 1) hM.1 hM.2.1 dL_law_499 ic_1 ?_
  refine lv_iadd hM.1 hM.2.1 dL_law_500 ?_
  refine va_sld hM.1 hM.2.1 hX hbl (Nat.not_le.mpr hbl) hw.2.2.2.1 (sc_in (d := 1) rfl (by omega) hL) dL_law_501 ?_
  refine y_callVI (rest := []) hM hw (ct_X11_sell l oC (xs (nI j + 1).toNatClampNeg)) [.int (xs (nI j + 1).toNatClampNeg)] (okX11.o oC) rfl rfl rfl (gi_V ml_L_58 im_X11_sell sl_X11_sell in_X11 kc_X11_sell) hd_X11_sell rfl ⟨Nat.le_of_ble_eq_true rfl, Nat.le_of_ble_eq_true rfl⟩ rfl (Nat.le_of_ble_eq_true rfl) hl.1 hF1 hcs dL_law_502 (fun H locs hw => ?_)
  refine lv_aload_n hM.1 hM.2.1 dL_law_505 rfl (lv_at hl 2 rfl) ?_
  refine lv_aload_n hM.1 hM.2.1 dL_law_506 rfl (lv_at hl 0 rfl) ?_
  refine lv_iload_n hM.1 hM.2.1 dL_law_507 rfl (lv_at hl 3 rfl) ?_
  refine lv_iconst (v := 1) hM.1 hM.2.1 dL_law_508 ic_1 ?_
  refine lv_iadd hM.1 hM.2.1 dL_law_509 ?_
  refine va_sld hM.1 hM.2.1 hX hbl (Nat.not_le.mpr hbl) hw.2.2.2.1 (sc_in (d := 1) rfl (by omega) hL) dL_law_510 ?_
  have hw := wd_swap hw
  refine y_callVI (rest := [.int v]) hM hw (ct_X12_sell l oR (xs (nI j + 1).toNatClampNeg)) [.int (xs (nI j + 1).toNatClampNeg)] (okX12.o oR) rfl rfl rfl (gi_V ml_L_61 im_X12_sell sl_X12_sell in_X12 kc_X12_sell) hd_X12_sell rfl ⟨Nat.le_of_ble_eq_true rfl, Nat.le_of_ble_eq_true rfl⟩ rfl (Nat.le_of_ble_eq_true rfl) hl.1 hF2 hcs dL_law_511 (fun H locs hw => ?_)
  have hw := wd_swap hw
  refine lv_icmp_eq (tgt := 1235) hM.1 hM.2.1 dL_law_514 (by decide) (fun _ => ?_) (fun q => absurd rfl q)
  exact kk _ _ H locs hJ hw
set_option maxHeartbeats 4000000 in
set_option maxRecDepth 100000 in
theorem law_c11 {p : Program} {l : Launch} {e : Env} {s : State} {m : MethodId} {below : List Frame} {meth : Method} {c : Code} {Q : State → Prop} {D : va_G} {G : GG} {adC adR : Nat → Nat} {layC layR : List KK} {b L j : Nat} {xs : Nat → Int32} {hc hr : PH} {H : Heap} {locs : List Loc} {ls : Array Slot} {cells slots : Nat} {J : PH → PH → Prop} (hM : CallFix p m c cL_law 4 s #[Value.ref b] lw_g RL) (hX : va_X b L xs s s.heap) (hbl : b < s.heap.size) (hcs : cells ≤ room_1.cells ∧ slots ≤ room_1.slots) (oC : okX11 layC) (oR : okX12 layR) (hL : L ≤ 3072) (hj : j + 5 < L) (hl : lv_has ls 4 [(0, .ref b), (1, .ref (adC 0)), (2, .ref (adR 0)), (3, .int (nI j))]) (hw : Wd D G (fun q : Nat => s.heap.size ≤ q) s.heap adC layC (encA adR G hr 0 layR) hc s H locs) (hop : ∃ (v : Int32) (hc' : PH) (hr' : PH), c_X11_plan (xs (nI j + 1).toNatClampNeg) (xs (nI j + 2).toNatClampNeg) hc = some (v, hc') ∧ c_X12_plan (xs (nI j + 1).toNatClampNeg) (xs (nI j + 2).toNatClampNeg) hr = some (v, hr') ∧ J hc' hr') (kk : ∀ (hc' hr' : PH) (H : Heap) (locs : List Loc), J hc' hr' → Wd D G (fun q : Nat => s.heap.size ≤ q) s.heap adC layC (encA adR G hr' 0 layR) hc' s H locs → W p l e room_1 s m #[Value.ref b] below meth c H locs cells slots Q (F0 m 1235 ls [])) : W p l e room_1 s m #[Value.ref b] below meth c H locs cells slots Q (F0 m 519 ls []) := by
  obtain ⟨v, hc', hr', hF1, hF2, hJ⟩ := hop
  refine lv_aload_n hM.1 hM.2.1 dL_law_519 rfl (lv_at hl 1 rfl) ?_
  refine lv_aload_n hM.1 hM.2.1 dL_law_520 rfl (lv_at hl 0 rfl) ?_
  refine lv_iload_n hM.1 hM.2.1 dL_law_521 rfl (lv_at hl 3 rfl) ?_
  refine lv_iconst (v := 1) hM.1 hM.2.1 dL_law_522 ic_1 ?_
  refine lv_iadd hM.1 hM.2.1 dL_law_523 ?_
  refine va_sld hM.1 hM.2.1 hX hbl (Nat.not_le.mpr hbl) hw.2.2.2.1 (sc_in (d := 1) rfl (by omega) hL) dL_law_524 ?_
  refine lv_aload_n hM.1 hM.2.1 dL_law_525 rfl (lv_at hl 0 rfl) ?_
  refine lv_iload_n hM.1 hM.2.1 dL_law_526 rfl (lv_at hl 3 rfl) ?_
  refine lv_iconst (v := 2) hM.1 hM.2.1 dL_law_527 ic_2 ?_
  refine lv_iadd hM.1 hM.2.1 dL_law_528 ?_
  refine va_sld hM.1 hM.2.1 hX hbl (Nat.not_le.mpr hbl) hw.2.2.2.1 (sc_in (d := 2) rfl (by omega) hL) dL_law_529 ?_
  refine y_callVI (rest := []) hM hw (ct_X11_plan l oC (xs (nI j + 1).toNatClampNeg) (xs (nI j + 2).toNatClampNeg)) [.int (xs (nI j + 1).toNatClampNeg), .int (xs (nI j + 2).toNatClampNeg)] (okX11.o oC) rfl rfl rfl (gi_V ml_L_62 im_X11_plan sl_X11_plan in_X11 kc_X11_plan) hd_X11_plan rfl ⟨Nat.le_of_ble_eq_true rfl, Nat.le_of_ble_eq_true rfl⟩ rfl (Nat.le_of_ble_eq_true rfl) hl.1 hF1 hcs dL_law_530 (fun H locs hw => ?_)
  refine lv_aload_n hM.1 hM.2.1 dL_law_533 rfl (lv_at hl 2 rfl) ?_
  refine lv_aload_n hM.1 hM.2.1 dL_law_534 rfl (lv_at hl 0 rfl) ?_
  refine lv_iload_n hM.1 hM.2.1 dL_law_535 rfl (lv_at hl 3 rfl) ?_
  refine lv_iconst (v := 1) hM.1 hM.2.1 dL_law_536 ic_1 ?_
  refine lv_iadd hM.1 hM.2.1 dL_law_537 ?_
  refine va_sld hM.1 hM.2.1 hX hbl (Nat.not_le.mpr hbl) hw.2.2.2.1 (sc_in (d := 1) rfl (by omega) hL) dL_law_538 ?_
  refine lv_aload_n hM.1 hM.2.1 dL_law_539 rfl (lv_at hl 0 rfl) ?_
  refine lv_iload_n hM.1 hM.2.1 dL_law_540 rfl (lv_at hl 3 rfl) ?_
  refine lv_iconst (v := 2) hM.1 hM.2.1 dL_law_541 ic_2 ?_
  refine lv_iadd hM.1 hM.2.1 dL_law_542 ?_
  refine va_sld hM.1 hM.2.1 hX hbl (Nat.not_le.mpr hbl) hw.2.2.2.1 (sc_in (d := 2) rfl (by omega) hL) dL_law_543 ?_
  have hw := wd_swap hw
  refine y_callVI (rest := [.int v]) hM hw (ct_X12_plan l oR (xs (nI j + 1).toNatClampNeg) (xs (nI j + 2).toNatClampNeg)) [.int (xs (nI j + 1).toNatClampNeg), .int (xs (nI j + 2).toNatClampNeg)] (okX12.o oR) rfl rfl rfl (gi_V ml_L_66 im_X12_plan sl_X12_plan in_X12 kc_X12_plan) hd_X12_plan rfl ⟨Nat.le_of_ble_eq_true rfl, Nat.le_of_ble_eq_true rfl⟩ rfl (Nat.le_of_ble_eq_true rfl) hl.1 hF2 hcs dL_law_544 (fun H locs hw => ?_)
  have hw := wd_swap hw
  refine lv_icmp_eq (tgt := 1235) hM.1 hM.2.1 dL_law_547 (by decide) (fun _ => ?_) (fun q => absurd rfl q)
  exact kk _ _ H locs hJ hw
set_option maxHeartbeats 4000000 in
set_option maxRecDepth 100000 in
theorem law_c12 {p : Program} {l : Launch} {e : Env} {s : State} {m : MethodId} {below : List Frame} {meth : Method} {c : Code} {Q : State → Prop} {D : va_G} {G : GG} {adC adR : Nat → Nat} {layC layR : List KK} {b L j : Nat} {xs : Nat → Int32} {hc hr : PH} {H : Heap} {locs : List Loc} {ls : Array Slot} {cells slots : Nat} {J : PH → PH → Prop} (hM : CallFix p m c cL_law 4 s #[Value.ref b] lw_g RL) (hX : va_X b L xs s s.heap) (hbl : b < s.heap.size) (hcs : cells ≤ room_1.cells ∧ slots ≤ room_1.slots) (oC : okX11 layC) (oR : okX12 layR) (hL : L ≤ 3072) (hj : j + 5 < L) (hl : lv_has ls 4 [(0, .ref b), (1, .ref (adC 0)), (2, .ref (adR 0)), (3, .int (nI j))]) (hw : Wd D G (fun q : Nat => s.heap.size ≤ q) s.heap adC layC (encA adR G hr 0 layR) hc s H locs) (hop : ∃ (v : Int32) (hc' : PH) (hr' : PH), c_X11_days (xs (nI j + 1).toNatClampNeg) hc = some (v, hc') ∧ c_X12_days (xs (nI j + 1).toNatClampNeg) hr = some (v, hr') ∧ J hc' hr') (kk : ∀ (hc' hr' : PH) (H : Heap) (locs : List Loc), J hc' hr' → Wd D G (fun q : Nat => s.heap.size ≤ q) s.heap adC layC (encA adR G hr' 0 layR) hc' s H locs → W p l e room_1 s m #[Value.ref b] below meth c H locs cells slots Q (F0 m 1235 ls [])) : W p l e room_1 s m #[Value.ref b] below meth c H locs cells slots Q (F0 m 552 ls []) := by
  obtain ⟨v, hc', hr', hF1, hF2, hJ⟩ := hop
  refine lv_aload_n hM.1 hM.2.1 dL_law_552 rfl (lv_at hl 1 rfl) ?_
  refine lv_aload_n hM.1 hM.2.1 dL_law_553 rfl (lv_at hl 0 rfl) ?_
  refine lv_iload_n hM.1 hM.2.1 dL_law_554 rfl (lv_at hl 3 rfl) ?_
  refine lv_iconst (v := 1) hM.1 hM.2.1 dL_law_555 ic_1 ?_
  refine lv_iadd hM.1 hM.2.1 dL_law_556 ?_
  refine va_sld hM.1 hM.2.1 hX hbl (Nat.not_le.mpr hbl) hw.2.2.2.1 (sc_in (d := 1) rfl (by omega) hL) dL_law_557 ?_
  refine y_callVI (rest := []) hM hw (ct_X11_days l oC (xs (nI j + 1).toNatClampNeg)) [.int (xs (nI j + 1).toNatClampNeg)] (okX11.o oC) rfl rfl rfl (gi_V ml_L_67 im_X11_days sl_X11_days in_X11 kc_X11_days) hd_X11_days rfl ⟨Nat.le_of_ble_eq_true rfl, Nat.le_of_ble_eq_true rfl⟩ rfl (Nat.le_of_ble_eq_true rfl) hl.1 hF1 hcs dL_law_558 (fun H locs hw => ?_)
  refine lv_aload_n hM.1 hM.2.1 dL_law_561 rfl (lv_at hl 2 rfl) ?_
  refine lv_aload_n hM.1 hM.2.1 dL_law_562 rfl (lv_at hl 0 rfl) ?_
  refine lv_iload_n hM.1 hM.2.1 dL_law_563 rfl (lv_at hl 3 rfl) ?_
  refine lv_iconst (v := 1) hM.1 hM.2.1 dL_law_564 ic_1 ?_
  refine lv_iadd hM.1 hM.2.1 dL_law_565 ?_
  refine va_sld hM.1 hM.2.1 hX hbl (Nat.not_le.mpr hbl) hw.2.2.2.1 (sc_in (d := 1) rfl (by omega) hL) dL_law_566 ?_
  have hw := wd_swap hw
  refine y_callVI (rest := [.int v]) hM hw (ct_X12_days l oR (xs (nI j + 1).toNatClampNeg)) [.int (xs (nI j + 1).toNatClampNeg)] (okX12.o oR) rfl rfl rfl (gi_V ml_L_70 im_X12_days sl_X12_days in_X12 kc_X12_days) hd_X12_days rfl ⟨Nat.le_of_ble_eq_true rfl, Nat.le_of_ble_eq_true rfl⟩ rfl (Nat.le_of_ble_eq_true rfl) hl.1 hF2 hcs dL_law_567 (fun H locs hw => ?_)
  have hw := wd_swap hw
  refine lv_icmp_eq (tgt := 1235) hM.1 hM.2.1 dL_law_570 (by decide) (fun _ => ?_) (fun q => absurd rfl q)
  exact kk _ _ H locs hJ hw
set_option maxHeartbeats 4000000 in
set_option maxRecDepth 100000 in
theorem law_c13 {p : Program} {l : Launch} {e : Env} {s : State} {m : MethodId} {below : List Frame} {meth : Method} {c : Code} {Q : State → Prop} {D : va_G} {G : GG} {adC adR : Nat → Nat} {layC layR : List KK} {b L j : Nat} {xs : Nat → Int32} {hc hr : PH} {H : Heap} {locs : List Loc} {ls : Array Slot} {cells slots : Nat} {J : PH → PH → Prop} (hM : CallFix p m c cL_law 4 s #[Value.ref b] lw_g RL) (hX : va_X b L xs s s.heap) (hbl : b < s.heap.size) (hcs : cells ≤ room_1.cells ∧ slots ≤ room_1.slots) (oC : okX11 layC) (oR : okX12 layR) (hL : L ≤ 3072) (hj : j + 5 < L) (hl : lv_has ls 4 [(0, .ref b), (1, .ref (adC 0)), (2, .ref (adR 0)), (3, .int (nI j))]) (hw : Wd D G (fun q : Nat => s.heap.size ≤ q) s.heap adC layC (encA adR G hr 0 layR) hc s H locs) (hop : ∃ (v : Int32) (hc' : PH) (hr' : PH), c_X11_undo hc = some (v, hc') ∧ c_X12_undo hr = some (v, hr') ∧ J hc' hr') (kk : ∀ (hc' hr' : PH) (H : Heap) (locs : List Loc), J hc' hr' → Wd D G (fun q : Nat => s.heap.size ≤ q) s.heap adC layC (encA adR G hr' 0 layR) hc' s H locs → W p l e room_1 s m #[Value.ref b] below meth c H locs cells slots Q (F0 m 1235 ls [])) : W p l e room_1 s m #[Value.ref b] below meth c H locs cells slots Q (F0 m 575 ls []) := by
  obtain ⟨v, hc', hr', hF1, hF2, hJ⟩ := hop
  refine lv_aload_n hM.1 hM.2.1 dL_law_575 rfl (lv_at hl 1 rfl) ?_
  refine y_callVI (rest := []) hM hw (ct_X11_undo l oC) [] (okX11.o oC) rfl rfl rfl (gi_V ml_L_71 im_X11_undo sl_X11_undo in_X11 kc_X11_undo) hd_X11_undo rfl ⟨Nat.le_of_ble_eq_true rfl, Nat.le_of_ble_eq_true rfl⟩ rfl (Nat.le_of_ble_eq_true rfl) hl.1 hF1 hcs dL_law_576 (fun H locs hw => ?_)
  refine lv_aload_n hM.1 hM.2.1 dL_law_579 rfl (lv_at hl 2 rfl) ?_
  have hw := wd_swap hw
  refine y_callVI (rest := [.int v]) hM hw (ct_X12_undo l oR) [] (okX12.o oR) rfl rfl rfl (gi_V ml_L_75 im_X12_undo sl_X12_undo in_X12 kc_X12_undo) hd_X12_undo rfl ⟨Nat.le_of_ble_eq_true rfl, Nat.le_of_ble_eq_true rfl⟩ rfl (Nat.le_of_ble_eq_true rfl) hl.1 hF2 hcs dL_law_580 (fun H locs hw => ?_)
  have hw := wd_swap hw
  refine lv_icmp_eq (tgt := 1235) hM.1 hM.2.1 dL_law_583 (by decide) (fun _ => ?_) (fun q => absurd rfl q)
  exact kk _ _ H locs hJ hw
set_option maxHeartbeats 4000000 in
set_option maxRecDepth 100000 in
theorem law_c14 {p : Program} {l : Launch} {e : Env} {s : State} {m : MethodId} {below : List Frame} {meth : Method} {c : Code} {Q : State → Prop} {D : va_G} {G : GG} {adC adR : Nat → Nat} {layC layR : List KK} {b L j : Nat} {xs : Nat → Int32} {hc hr : PH} {H : Heap} {locs : List Loc} {ls : Array Slot} {cells slots : Nat} {J : PH → PH → Prop} (hM : CallFix p m c cL_law 4 s #[Value.ref b] lw_g RL) (hX : va_X b L xs s s.heap) (hbl : b < s.heap.size) (hcs : cells ≤ room_1.cells ∧ slots ≤ room_1.slots) (oC : okX11 layC) (oR : okX12 layR) (hL : L ≤ 3072) (hj : j + 5 < L) (hl : lv_has ls 4 [(0, .ref b), (1, .ref (adC 0)), (2, .ref (adR 0)), (3, .int (nI j))]) (hw : Wd D G (fun q : Nat => s.heap.size ≤ q) s.heap adC layC (encA adR G hr 0 layR) hc s H locs) (hop : ∃ (v : Int32) (hc' : PH) (hr' : PH), c_X11_pass (xs (nI j + 1).toNatClampNeg) (xs (nI j + 2).toNatClampNeg) hc = some (v, hc') ∧ c_X12_pass (xs (nI j + 1).toNatClampNeg) (xs (nI j + 2).toNatClampNeg) hr = some (v, hr') ∧ J hc' hr') (kk : ∀ (hc' hr' : PH) (H : Heap) (locs : List Loc), J hc' hr' → Wd D G (fun q : Nat => s.heap.size ≤ q) s.heap adC layC (encA adR G hr' 0 layR) hc' s H locs → W p l e room_1 s m #[Value.ref b] below meth c H locs cells slots Q (F0 m 1235 ls [])) : W p l e room_1 s m #[Value.ref b] below meth c H locs cells slots Q (F0 m 588 ls []) := by
  obtain ⟨v, hc', hr', hF1, hF2, hJ⟩ := hop
  refine lv_aload_n hM.1 hM.2.1 dL_law_588 rfl (lv_at hl 1 rfl) ?_
  refine lv_aload_n hM.1 hM.2.1 dL_law_589 rfl (lv_at hl 0 rfl) ?_
  refine lv_iload_n hM.1 hM.2.1 dL_law_590 rfl (lv_at hl 3 rfl) ?_
  refine lv_iconst (v := 1) hM.1 hM.2.1 dL_law_591 ic_1 ?_
  refine lv_iadd hM.1 hM.2.1 dL_law_592 ?_
  refine va_sld hM.1 hM.2.1 hX hbl (Nat.not_le.mpr hbl) hw.2.2.2.1 (sc_in (d := 1) rfl (by omega) hL) dL_law_593 ?_
  refine lv_aload_n hM.1 hM.2.1 dL_law_594 rfl (lv_at hl 0 rfl) ?_
  refine lv_iload_n hM.1 hM.2.1 dL_law_595 rfl (lv_at hl 3 rfl) ?_
  refine lv_iconst (v := 2) hM.1 hM.2.1 dL_law_596 ic_2 ?_
  refine lv_iadd hM.1 hM.2.1 dL_law_597 ?_
  refine va_sld hM.1 hM.2.1 hX hbl (Nat.not_le.mpr hbl) hw.2.2.2.1 (sc_in (d := 2) rfl (by omega) hL) dL_law_598 ?_
  refine y_callVI (rest := []) hM hw (ct_X11_pass l oC (xs (nI j + 1).toNatClampNeg) (xs (nI j + 2).toNatClampNeg)) [.int (xs (nI j + 1).toNatClampNeg), .int (xs (nI j + 2).toNatClampNeg)] (okX11.o oC) rfl rfl rfl (gi_V ml_L_76 im_X11_pass sl_X11_pass in_X11 kc_X11_pass) hd_X11_pass rfl ⟨Nat.le_of_ble_eq_true rfl, Nat.le_of_ble_eq_true rfl⟩ rfl (Nat.le_of_ble_eq_true rfl) hl.1 hF1 hcs dL_law_599 (fun H locs hw => ?_)
  refine lv_aload_n hM.1 hM.2.1 dL_law_602 rfl (lv_at hl 2 rfl) ?_
  refine lv_aload_n hM.1 hM.2.1 dL_law_603 rfl (lv_at hl 0 rfl) ?_
  refine lv_iload_n hM.1 hM.2.1 dL_law_604 rfl (lv_at hl 3 rfl) ?_
  refine lv_iconst (v := 1) hM.1 hM.2.1 dL_law_605 ic_1 ?_
  refine lv_iadd hM.1 hM.2.1 dL_law_606 ?_
  refine va_sld hM.1 hM.2.1 hX hbl (Nat.not_le.mpr hbl) hw.2.2.2.1 (sc_in (d := 1) rfl (by omega) hL) dL_law_607 ?_
  refine lv_aload_n hM.1 hM.2.1 dL_law_608 rfl (lv_at hl 0 rfl) ?_
  refine lv_iload_n hM.1 hM.2.1 dL_law_609 rfl (lv_at hl 3 rfl) ?_
  refine lv_iconst (v := 2) hM.1 hM.2.1 dL_law_610 ic_2 ?_
  refine lv_iadd hM.1 hM.2.1 dL_law_611 ?_
  refine va_sld hM.1 hM.2.1 hX hbl (Nat.not_le.mpr hbl) hw.2.2.2.1 (sc_in (d := 2) rfl (by omega) hL) dL_law_612 ?_
  have hw := wd_swap hw
  refine y_callVI (rest := [.int v]) hM hw (ct_X12_pass l oR (xs (nI j + 1).toNatClampNeg) (xs (nI j + 2).toNatClampNeg)) [.int (xs (nI j + 1).toNatClampNeg), .int (xs (nI j + 2).toNatClampNeg)] (okX12.o oR) rfl rfl rfl (gi_V ml_L_79 im_X12_pass sl_X12_pass in_X12 kc_X12_pass) hd_X12_pass rfl ⟨Nat.le_of_ble_eq_true rfl, Nat.le_of_ble_eq_true rfl⟩ rfl (Nat.le_of_ble_eq_true rfl) hl.1 hF2 hcs dL_law_613 (fun H locs hw => ?_)
  have hw := wd_swap hw
  refine lv_icmp_eq (tgt := 1235) hM.1 hM.2.1 dL_law_616 (by decide) (fun _ => ?_) (fun q => absurd rfl q)
  exact kk _ _ H locs hJ hw
set_option maxHeartbeats 4000000 in
set_option maxRecDepth 100000 in
theorem law_c15 {p : Program} {l : Launch} {e : Env} {s : State} {m : MethodId} {below : List Frame} {meth : Method} {c : Code} {Q : State → Prop} {D : va_G} {G : GG} {adC adR : Nat → Nat} {layC layR : List KK} {b L j : Nat} {xs : Nat → Int32} {hc hr : PH} {H : Heap} {locs : List Loc} {ls : Array Slot} {cells slots : Nat} {J : PH → PH → Prop} (hM : CallFix p m c cL_law 4 s #[Value.ref b] lw_g RL) (hX : va_X b L xs s s.heap) (hbl : b < s.heap.size) (hcs : cells ≤ room_1.cells ∧ slots ≤ room_1.slots) (oC : okX11 layC) (oR : okX12 layR) (hL : L ≤ 3072) (hj : j + 5 < L) (hl : lv_has ls 4 [(0, .ref b), (1, .ref (adC 0)), (2, .ref (adR 0)), (3, .int (nI j))]) (hw : Wd D G (fun q : Nat => s.heap.size ≤ q) s.heap adC layC (encA adR G hr 0 layR) hc s H locs) (hop : ∃ (v : Int32) (hc' : PH) (hr' : PH), c_X11_planned (xs (nI j + 1).toNatClampNeg) (xs (nI j + 2).toNatClampNeg) hc = some (v, hc') ∧ c_X12_planned (xs (nI j + 1).toNatClampNeg) (xs (nI j + 2).toNatClampNeg) hr = some (v, hr') ∧ J hc' hr') (kk : ∀ (hc' hr' : PH) (H : Heap) (locs : List Loc), J hc' hr' → Wd D G (fun q : Nat => s.heap.size ≤ q) s.heap adC layC (encA adR G hr' 0 layR) hc' s H locs → W p l e room_1 s m #[Value.ref b] below meth c H locs cells slots Q (F0 m 1235 ls [])) : W p l e room_1 s m #[Value.ref b] below meth c H locs cells slots Q (F0 m 621 ls []) := by
  obtain ⟨v, hc', hr', hF1, hF2, hJ⟩ := hop
  refine lv_aload_n hM.1 hM.2.1 dL_law_621 rfl (lv_at hl 1 rfl) ?_
  refine lv_aload_n hM.1 hM.2.1 dL_law_622 rfl (lv_at hl 0 rfl) ?_
  refine lv_iload_n hM.1 hM.2.1 dL_law_623 rfl (lv_at hl 3 rfl) ?_
  refine lv_iconst (v := 1) hM.1 hM.2.1 dL_law_624 ic_1 ?_
  refine lv_iadd hM.1 hM.2.1 dL_law_625 ?_
  refine va_sld hM.1 hM.2.1 hX hbl (Nat.not_le.mpr hbl) hw.2.2.2.1 (sc_in (d := 1) rfl (by omega) hL) dL_law_626 ?_
  refine lv_aload_n hM.1 hM.2.1 dL_law_627 rfl (lv_at hl 0 rfl) ?_
  refine lv_iload_n hM.1 hM.2.1 dL_law_628 rfl (lv_at hl 3 rfl) ?_
  refine lv_iconst (v := 2) hM.1 hM.2.1 dL_law_629 ic_2 ?_
  refine lv_iadd hM.1 hM.2.1 dL_law_630 ?_
  refine va_sld hM.1 hM.2.1 hX hbl (Nat.not_le.mpr hbl) hw.2.2.2.1 (sc_in (d := 2) rfl (by omega) hL) dL_law_631 ?_
  refine y_callVI (rest := []) hM hw (ct_X11_planned l oC (xs (nI j + 1).toNatClampNeg) (xs (nI j + 2).toNatClampNeg)) [.int (xs (nI j + 1).toNatClampNeg), .int (xs (nI j + 2).toNatClampNeg)] (okX11.o oC) rfl rfl rfl (gi_V ml_L_80 im_X11_planned sl_X11_planned in_X11 kc_X11_planned) hd_X11_planned rfl ⟨Nat.le_of_ble_eq_true rfl, Nat.le_of_ble_eq_true rfl⟩ rfl (Nat.le_of_ble_eq_true rfl) hl.1 hF1 hcs dL_law_632 (fun H locs hw => ?_)
  refine lv_aload_n hM.1 hM.2.1 dL_law_635 rfl (lv_at hl 2 rfl) ?_
  refine lv_aload_n hM.1 hM.2.1 dL_law_636 rfl (lv_at hl 0 rfl) ?_
  refine lv_iload_n hM.1 hM.2.1 dL_law_637 rfl (lv_at hl 3 rfl) ?_
  refine lv_iconst (v := 1) hM.1 hM.2.1 dL_law_638 ic_1 ?_
  refine lv_iadd hM.1 hM.2.1 dL_law_639 ?_
  refine va_sld hM.1 hM.2.1 hX hbl (Nat.not_le.mpr hbl) hw.2.2.2.1 (sc_in (d := 1) rfl (by omega) hL) dL_law_640 ?_
  refine lv_aload_n hM.1 hM.2.1 dL_law_641 rfl (lv_at hl 0 rfl) ?_
  refine lv_iload_n hM.1 hM.2.1 dL_law_642 rfl (lv_at hl 3 rfl) ?_
  refine lv_iconst (v := 2) hM.1 hM.2.1 dL_law_643 ic_2 ?_
  refine lv_iadd hM.1 hM.2.1 dL_law_644 ?_
  refine va_sld hM.1 hM.2.1 hX hbl (Nat.not_le.mpr hbl) hw.2.2.2.1 (sc_in (d := 2) rfl (by omega) hL) dL_law_645 ?_
  have hw := wd_swap hw
  refine y_callVI (rest := [.int v]) hM hw (ct_X12_planned l oR (xs (nI j + 1).toNatClampNeg) (xs (nI j + 2).toNatClampNeg)) [.int (xs (nI j + 1).toNatClampNeg), .int (xs (nI j + 2).toNatClampNeg)] (okX12.o oR) rfl rfl rfl (gi_V ml_L_83 im_X12_planned sl_X12_planned in_X12 kc_X12_planned) hd_X12_planned rfl ⟨Nat.le_of_ble_eq_true rfl, Nat.le_of_ble_eq_true rfl⟩ rfl (Nat.le_of_ble_eq_true rfl) hl.1 hF2 hcs dL_law_646 (fun H locs hw => ?_)
  have hw := wd_swap hw
  refine lv_icmp_eq (tgt := 1235) hM.1 hM.2.1 dL_law_649 (by decide) (fun _ => ?_) (fun q => absurd rfl q)
  exact kk _ _ H locs hJ hw
set_option maxHeartbeats 4000000 in
set_option maxRecDepth 100000 in
theorem law_c16 {p : Program} {l : Launch} {e : Env} {s : State} {m : MethodId} {below : List Frame} {meth : Method} {c : Code} {Q : State → Prop} {D : va_G} {G : GG} {adC adR : Nat → Nat} {layC layR : List KK} {b L j : Nat} {xs : Nat → Int32} {hc hr : PH} {H : Heap} {locs : List Loc} {ls : Array Slot} {cells slots : Nat} {J : PH → PH → Prop} (hM : CallFix p m c cL_law 4 s #[Value.ref b] lw_g RL) (hX : va_X b L xs s s.heap) (hbl : b < s.heap.size) (hcs : cells ≤ room_1.cells ∧ slots ≤ room_1.slots) (oC : okX11 layC) (oR : okX12 layR) (hL : L ≤ 3072) (hj : j + 5 < L) (hl : lv_has ls 4 [(0, .ref b), (1, .ref (adC 0)), (2, .ref (adR 0)), (3, .int (nI j))]) (hw : Wd D G (fun q : Nat => s.heap.size ≤ q) s.heap adC layC (encA adR G hr 0 layR) hc s H locs) (hop : ∃ (v : Int32) (hc' : PH) (hr' : PH), c_X11_trust (xs (nI j + 1).toNatClampNeg) (xs (nI j + 2).toNatClampNeg) hc = some (v, hc') ∧ c_X12_trust (xs (nI j + 1).toNatClampNeg) (xs (nI j + 2).toNatClampNeg) hr = some (v, hr') ∧ J hc' hr') (kk : ∀ (hc' hr' : PH) (H : Heap) (locs : List Loc), J hc' hr' → Wd D G (fun q : Nat => s.heap.size ≤ q) s.heap adC layC (encA adR G hr' 0 layR) hc' s H locs → W p l e room_1 s m #[Value.ref b] below meth c H locs cells slots Q (F0 m 1235 ls [])) : W p l e room_1 s m #[Value.ref b] below meth c H locs cells slots Q (F0 m 654 ls []) := by
  obtain ⟨v, hc', hr', hF1, hF2, hJ⟩ := hop
  refine lv_aload_n hM.1 hM.2.1 dL_law_654 rfl (lv_at hl 1 rfl) ?_
  refine lv_aload_n hM.1 hM.2.1 dL_law_655 rfl (lv_at hl 0 rfl) ?_
  refine lv_iload_n hM.1 hM.2.1 dL_law_656 rfl (lv_at hl 3 rfl) ?_
  refine lv_iconst (v := 1) hM.1 hM.2.1 dL_law_657 ic_1 ?_
  refine lv_iadd hM.1 hM.2.1 dL_law_658 ?_
  refine va_sld hM.1 hM.2.1 hX hbl (Nat.not_le.mpr hbl) hw.2.2.2.1 (sc_in (d := 1) rfl (by omega) hL) dL_law_659 ?_
  refine lv_aload_n hM.1 hM.2.1 dL_law_660 rfl (lv_at hl 0 rfl) ?_
  refine lv_iload_n hM.1 hM.2.1 dL_law_661 rfl (lv_at hl 3 rfl) ?_
  refine lv_iconst (v := 2) hM.1 hM.2.1 dL_law_662 ic_2 ?_
  refine lv_iadd hM.1 hM.2.1 dL_law_663 ?_
  refine va_sld hM.1 hM.2.1 hX hbl (Nat.not_le.mpr hbl) hw.2.2.2.1 (sc_in (d := 2) rfl (by omega) hL) dL_law_664 ?_
  refine y_callVI (rest := []) hM hw (ct_X11_trust l oC (xs (nI j + 1).toNatClampNeg) (xs (nI j + 2).toNatClampNeg)) [.int (xs (nI j + 1).toNatClampNeg), .int (xs (nI j + 2).toNatClampNeg)] (okX11.o oC) rfl rfl rfl (gi_V ml_L_84 im_X11_trust sl_X11_trust in_X11 kc_X11_trust) hd_X11_trust rfl ⟨Nat.le_of_ble_eq_true rfl, Nat.le_of_ble_eq_true rfl⟩ rfl (Nat.le_of_ble_eq_true rfl) hl.1 hF1 hcs dL_law_665 (fun H locs hw => ?_)
  refine lv_aload_n hM.1 hM.2.1 dL_law_668 rfl (lv_at hl 2 rfl) ?_
  refine lv_aload_n hM.1 hM.2.1 dL_law_669 rfl (lv_at hl 0 rfl) ?_
  refine lv_iload_n hM.1 hM.2.1 dL_law_670 rfl (lv_at hl 3 rfl) ?_
  refine lv_iconst (v := 1) hM.1 hM.2.1 dL_law_671 ic_1 ?_
  refine lv_iadd hM.1 hM.2.1 dL_law_672 ?_
  refine va_sld hM.1 hM.2.1 hX hbl (Nat.not_le.mpr hbl) hw.2.2.2.1 (sc_in (d := 1) rfl (by omega) hL) dL_law_673 ?_
  refine lv_aload_n hM.1 hM.2.1 dL_law_674 rfl (lv_at hl 0 rfl) ?_
  refine lv_iload_n hM.1 hM.2.1 dL_law_675 rfl (lv_at hl 3 rfl) ?_
  refine lv_iconst (v := 2) hM.1 hM.2.1 dL_law_676 ic_2 ?_
  refine lv_iadd hM.1 hM.2.1 dL_law_677 ?_
  refine va_sld hM.1 hM.2.1 hX hbl (Nat.not_le.mpr hbl) hw.2.2.2.1 (sc_in (d := 2) rfl (by omega) hL) dL_law_678 ?_
  have hw := wd_swap hw
  refine y_callVI (rest := [.int v]) hM hw (ct_X12_trust l oR (xs (nI j + 1).toNatClampNeg) (xs (nI j + 2).toNatClampNeg)) [.int (xs (nI j + 1).toNatClampNeg), .int (xs (nI j + 2).toNatClampNeg)] (okX12.o oR) rfl rfl rfl (gi_V ml_L_87 im_X12_trust sl_X12_trust in_X12 kc_X12_trust) hd_X12_trust rfl ⟨Nat.le_of_ble_eq_true rfl, Nat.le_of_ble_eq_true rfl⟩ rfl (Nat.le_of_ble_eq_true rfl) hl.1 hF2 hcs dL_law_679 (fun H locs hw => ?_)
  have hw := wd_swap hw
  refine lv_icmp_eq (tgt := 1235) hM.1 hM.2.1 dL_law_682 (by decide) (fun _ => ?_) (fun q => absurd rfl q)
  exact kk _ _ H locs hJ hw
set_option maxHeartbeats 4000000 in
set_option maxRecDepth 100000 in
theorem law_c17 {p : Program} {l : Launch} {e : Env} {s : State} {m : MethodId} {below : List Frame} {meth : Method} {c : Code} {Q : State → Prop} {D : va_G} {G : GG} {adC adR : Nat → Nat} {layC layR : List KK} {b L j : Nat} {xs : Nat → Int32} {hc hr : PH} {H : Heap} {locs : List Loc} {ls : Array Slot} {cells slots : Nat} {J : PH → PH → Prop} (hM : CallFix p m c cL_law 4 s #[Value.ref b] lw_g RL) (hX : va_X b L xs s s.heap) (hbl : b < s.heap.size) (hcs : cells ≤ room_1.cells ∧ slots ≤ room_1.slots) (oC : okX11 layC) (oR : okX12 layR) (hL : L ≤ 3072) (hj : j + 5 < L) (hl : lv_has ls 4 [(0, .ref b), (1, .ref (adC 0)), (2, .ref (adR 0)), (3, .int (nI j))]) (hw : Wd D G (fun q : Nat => s.heap.size ≤ q) s.heap adC layC (encA adR G hr 0 layR) hc s H locs) (hop : ∃ (v : Int32) (hc' : PH) (hr' : PH), c_X11_year (xs (nI j + 1).toNatClampNeg) (xs (nI j + 2).toNatClampNeg) hc = some (v, hc') ∧ c_X12_year (xs (nI j + 1).toNatClampNeg) (xs (nI j + 2).toNatClampNeg) hr = some (v, hr') ∧ J hc' hr') (kk : ∀ (hc' hr' : PH) (H : Heap) (locs : List Loc), J hc' hr' → Wd D G (fun q : Nat => s.heap.size ≤ q) s.heap adC layC (encA adR G hr' 0 layR) hc' s H locs → W p l e room_1 s m #[Value.ref b] below meth c H locs cells slots Q (F0 m 1235 ls [])) : W p l e room_1 s m #[Value.ref b] below meth c H locs cells slots Q (F0 m 687 ls []) := by
  obtain ⟨v, hc', hr', hF1, hF2, hJ⟩ := hop
  refine lv_aload_n hM.1 hM.2.1 dL_law_687 rfl (lv_at hl 1 rfl) ?_
  refine lv_aload_n hM.1 hM.2.1 dL_law_688 rfl (lv_at hl 0 rfl) ?_
  refine lv_iload_n hM.1 hM.2.1 dL_law_689 rfl (lv_at hl 3 rfl) ?_
  refine lv_iconst (v := 1) hM.1 hM.2.1 dL_law_690 ic_1 ?_
  refine lv_iadd hM.1 hM.2.1 dL_law_691 ?_
  refine va_sld hM.1 hM.2.1 hX hbl (Nat.not_le.mpr hbl) hw.2.2.2.1 (sc_in (d := 1) rfl (by omega) hL) dL_law_692 ?_
  refine lv_aload_n hM.1 hM.2.1 dL_law_693 rfl (lv_at hl 0 rfl) ?_
  refine lv_iload_n hM.1 hM.2.1 dL_law_694 rfl (lv_at hl 3 rfl) ?_
  refine lv_iconst (v := 2) hM.1 hM.2.1 dL_law_695 ic_2 ?_
  refine lv_iadd hM.1 hM.2.1 dL_law_696 ?_
  refine va_sld hM.1 hM.2.1 hX hbl (Nat.not_le.mpr hbl) hw.2.2.2.1 (sc_in (d := 2) rfl (by omega) hL) dL_law_697 ?_
  refine y_callVI (rest := []) hM hw (ct_X11_year l oC (xs (nI j + 1).toNatClampNeg) (xs (nI j + 2).toNatClampNeg)) [.int (xs (nI j + 1).toNatClampNeg), .int (xs (nI j + 2).toNatClampNeg)] (okX11.o oC) rfl rfl rfl (gi_V ml_L_88 im_X11_year sl_X11_year in_X11 kc_X11_year) hd_X11_year rfl ⟨Nat.le_of_ble_eq_true rfl, Nat.le_of_ble_eq_true rfl⟩ rfl (Nat.le_of_ble_eq_true rfl) hl.1 hF1 hcs dL_law_698 (fun H locs hw => ?_)
  refine lv_aload_n hM.1 hM.2.1 dL_law_701 rfl (lv_at hl 2 rfl) ?_
  refine lv_aload_n hM.1 hM.2.1 dL_law_702 rfl (lv_at hl 0 rfl) ?_
  refine lv_iload_n hM.1 hM.2.1 dL_law_703 rfl (lv_at hl 3 rfl) ?_
  refine lv_iconst (v := 1) hM.1 hM.2.1 dL_law_704 ic_1 ?_
  refine lv_iadd hM.1 hM.2.1 dL_law_705 ?_
  refine va_sld hM.1 hM.2.1 hX hbl (Nat.not_le.mpr hbl) hw.2.2.2.1 (sc_in (d := 1) rfl (by omega) hL) dL_law_706 ?_
  refine lv_aload_n hM.1 hM.2.1 dL_law_707 rfl (lv_at hl 0 rfl) ?_
  refine lv_iload_n hM.1 hM.2.1 dL_law_708 rfl (lv_at hl 3 rfl) ?_
  refine lv_iconst (v := 2) hM.1 hM.2.1 dL_law_709 ic_2 ?_
  refine lv_iadd hM.1 hM.2.1 dL_law_710 ?_
  refine va_sld hM.1 hM.2.1 hX hbl (Nat.not_le.mpr hbl) hw.2.2.2.1 (sc_in (d := 2) rfl (by omega) hL) dL_law_711 ?_
  have hw := wd_swap hw
  refine y_callVI (rest := [.int v]) hM hw (ct_X12_year l oR (xs (nI j + 1).toNatClampNeg) (xs (nI j + 2).toNatClampNeg)) [.int (xs (nI j + 1).toNatClampNeg), .int (xs (nI j + 2).toNatClampNeg)] (okX12.o oR) rfl rfl rfl (gi_V ml_L_91 im_X12_year sl_X12_year in_X12 kc_X12_year) hd_X12_year rfl ⟨Nat.le_of_ble_eq_true rfl, Nat.le_of_ble_eq_true rfl⟩ rfl (Nat.le_of_ble_eq_true rfl) hl.1 hF2 hcs dL_law_712 (fun H locs hw => ?_)
  have hw := wd_swap hw
  refine lv_icmp_eq (tgt := 1235) hM.1 hM.2.1 dL_law_715 (by decide) (fun _ => ?_) (fun q => absurd rfl q)
  exact kk _ _ H locs hJ hw
set_option maxHeartbeats 4000000 in
set_option maxRecDepth 100000 in
theorem law_c18 {p : Program} {l : Launch} {e : Env} {s : State} {m : MethodId} {below : List Frame} {meth : Method} {c : Code} {Q : State → Prop} {D : va_G} {G : GG} {adC adR : Nat → Nat} {layC layR : List KK} {b L j : Nat} {xs : Nat → Int32} {hc hr : PH} {H : Heap} {locs : List Loc} {ls : Array Slot} {cells slots : Nat} {J : PH → PH → Prop} (hM : CallFix p m c cL_law 4 s #[Value.ref b] lw_g RL) (hX : va_X b L xs s s.heap) (hbl : b < s.heap.size) (hcs : cells ≤ room_1.cells ∧ slots ≤ room_1.slots) (oC : okX11 layC) (oR : okX12 layR) (hL : L ≤ 3072) (hj : j + 5 < L) (hl : lv_has ls 4 [(0, .ref b), (1, .ref (adC 0)), (2, .ref (adR 0)), (3, .int (nI j))]) (hw : Wd D G (fun q : Nat => s.heap.size ≤ q) s.heap adC layC (encA adR G hr 0 layR) hc s H locs) (hop : ∃ (v : Int32) (hc' : PH) (hr' : PH), c_X11_cheapest (xs (nI j + 1).toNatClampNeg) (xs (nI j + 2).toNatClampNeg) hc = some (v, hc') ∧ c_X12_cheapest (xs (nI j + 1).toNatClampNeg) (xs (nI j + 2).toNatClampNeg) hr = some (v, hr') ∧ J hc' hr') (kk : ∀ (hc' hr' : PH) (H : Heap) (locs : List Loc), J hc' hr' → Wd D G (fun q : Nat => s.heap.size ≤ q) s.heap adC layC (encA adR G hr' 0 layR) hc' s H locs → W p l e room_1 s m #[Value.ref b] below meth c H locs cells slots Q (F0 m 1235 ls [])) : W p l e room_1 s m #[Value.ref b] below meth c H locs cells slots Q (F0 m 720 ls []) := by
  obtain ⟨v, hc', hr', hF1, hF2, hJ⟩ := hop
  refine lv_aload_n hM.1 hM.2.1 dL_law_720 rfl (lv_at hl 1 rfl) ?_
  refine lv_aload_n hM.1 hM.2.1 dL_law_721 rfl (lv_at hl 0 rfl) ?_
  refine lv_iload_n hM.1 hM.2.1 dL_law_722 rfl (lv_at hl 3 rfl) ?_
  refine lv_iconst (v := 1) hM.1 hM.2.1 dL_law_723 ic_1 ?_
  refine lv_iadd hM.1 hM.2.1 dL_law_724 ?_
  refine va_sld hM.1 hM.2.1 hX hbl (Nat.not_le.mpr hbl) hw.2.2.2.1 (sc_in (d := 1) rfl (by omega) hL) dL_law_725 ?_
  refine lv_aload_n hM.1 hM.2.1 dL_law_726 rfl (lv_at hl 0 rfl) ?_
  refine lv_iload_n hM.1 hM.2.1 dL_law_727 rfl (lv_at hl 3 rfl) ?_
  refine lv_iconst (v := 2) hM.1 hM.2.1 dL_law_728 ic_2 ?_
  refine lv_iadd hM.1 hM.2.1 dL_law_729 ?_
  refine va_sld hM.1 hM.2.1 hX hbl (Nat.not_le.mpr hbl) hw.2.2.2.1 (sc_in (d := 2) rfl (by omega) hL) dL_law_730 ?_
  refine y_callVI (rest := []) hM hw (ct_X11_cheapest l oC (xs (nI j + 1).toNatClampNeg) (xs (nI j + 2).toNatClampNeg)) [.int (xs (nI j + 1).toNatClampNeg), .int (xs (nI j + 2).toNatClampNeg)] (okX11.o oC) rfl rfl rfl (gi_V ml_L_92 im_X11_cheapest sl_X11_cheapest in_X11 kc_X11_cheapest) hd_X11_cheapest rfl ⟨Nat.le_of_ble_eq_true rfl, Nat.le_of_ble_eq_true rfl⟩ rfl (Nat.le_of_ble_eq_true rfl) hl.1 hF1 hcs dL_law_731 (fun H locs hw => ?_)
  refine lv_aload_n hM.1 hM.2.1 dL_law_734 rfl (lv_at hl 2 rfl) ?_
  refine lv_aload_n hM.1 hM.2.1 dL_law_735 rfl (lv_at hl 0 rfl) ?_
  refine lv_iload_n hM.1 hM.2.1 dL_law_736 rfl (lv_at hl 3 rfl) ?_
  refine lv_iconst (v := 1) hM.1 hM.2.1 dL_law_737 ic_1 ?_
  refine lv_iadd hM.1 hM.2.1 dL_law_738 ?_
  refine va_sld hM.1 hM.2.1 hX hbl (Nat.not_le.mpr hbl) hw.2.2.2.1 (sc_in (d := 1) rfl (by omega) hL) dL_law_739 ?_
  refine lv_aload_n hM.1 hM.2.1 dL_law_740 rfl (lv_at hl 0 rfl) ?_
  refine lv_iload_n hM.1 hM.2.1 dL_law_741 rfl (lv_at hl 3 rfl) ?_
  refine lv_iconst (v := 2) hM.1 hM.2.1 dL_law_742 ic_2 ?_
  refine lv_iadd hM.1 hM.2.1 dL_law_743 ?_
  refine va_sld hM.1 hM.2.1 hX hbl (Nat.not_le.mpr hbl) hw.2.2.2.1 (sc_in (d := 2) rfl (by omega) hL) dL_law_744 ?_
  have hw := wd_swap hw
  refine y_callVI (rest := [.int v]) hM hw (ct_X12_cheapest l oR (xs (nI j + 1).toNatClampNeg) (xs (nI j + 2).toNatClampNeg)) [.int (xs (nI j + 1).toNatClampNeg), .int (xs (nI j + 2).toNatClampNeg)] (okX12.o oR) rfl rfl rfl (gi_V ml_L_95 im_X12_cheapest sl_X12_cheapest in_X12 kc_X12_cheapest) hd_X12_cheapest rfl ⟨Nat.le_of_ble_eq_true rfl, Nat.le_of_ble_eq_true rfl⟩ rfl (Nat.le_of_ble_eq_true rfl) hl.1 hF2 hcs dL_law_745 (fun H locs hw => ?_)
  have hw := wd_swap hw
  refine lv_icmp_eq (tgt := 1235) hM.1 hM.2.1 dL_law_748 (by decide) (fun _ => ?_) (fun q => absurd rfl q)
  exact kk _ _ H locs hJ hw
set_option maxHeartbeats 4000000 in
set_option maxRecDepth 100000 in
theorem law_c19 {p : Program} {l : Launch} {e : Env} {s : State} {m : MethodId} {below : List Frame} {meth : Method} {c : Code} {Q : State → Prop} {D : va_G} {G : GG} {adC adR : Nat → Nat} {layC layR : List KK} {b L j : Nat} {xs : Nat → Int32} {hc hr : PH} {H : Heap} {locs : List Loc} {ls : Array Slot} {cells slots : Nat} {J : PH → PH → Prop} (hM : CallFix p m c cL_law 4 s #[Value.ref b] lw_g RL) (hX : va_X b L xs s s.heap) (hbl : b < s.heap.size) (hcs : cells ≤ room_1.cells ∧ slots ≤ room_1.slots) (oC : okX11 layC) (oR : okX12 layR) (hL : L ≤ 3072) (hj : j + 5 < L) (hl : lv_has ls 4 [(0, .ref b), (1, .ref (adC 0)), (2, .ref (adR 0)), (3, .int (nI j))]) (hw : Wd D G (fun q : Nat => s.heap.size ≤ q) s.heap adC layC (encA adR G hr 0 layR) hc s H locs) (hop : ∃ (v : Int32) (hc' : PH) (hr' : PH), c_X11_cheapestAt (xs (nI j + 1).toNatClampNeg) (xs (nI j + 2).toNatClampNeg) (xs (nI j + 3).toNatClampNeg) hc = some (v, hc') ∧ c_X12_cheapestAt (xs (nI j + 1).toNatClampNeg) (xs (nI j + 2).toNatClampNeg) (xs (nI j + 3).toNatClampNeg) hr = some (v, hr') ∧ J hc' hr') (kk : ∀ (hc' hr' : PH) (H : Heap) (locs : List Loc), J hc' hr' → Wd D G (fun q : Nat => s.heap.size ≤ q) s.heap adC layC (encA adR G hr' 0 layR) hc' s H locs → W p l e room_1 s m #[Value.ref b] below meth c H locs cells slots Q (F0 m 1235 ls [])) : W p l e room_1 s m #[Value.ref b] below meth c H locs cells slots Q (F0 m 753 ls []) := by
  obtain ⟨v, hc', hr', hF1, hF2, hJ⟩ := hop
  refine lv_aload_n hM.1 hM.2.1 dL_law_753 rfl (lv_at hl 1 rfl) ?_
  refine lv_aload_n hM.1 hM.2.1 dL_law_754 rfl (lv_at hl 0 rfl) ?_
  refine lv_iload_n hM.1 hM.2.1 dL_law_755 rfl (lv_at hl 3 rfl) ?_
  refine lv_iconst (v := 1) hM.1 hM.2.1 dL_law_756 ic_1 ?_
  refine lv_iadd hM.1 hM.2.1 dL_law_757 ?_
  refine va_sld hM.1 hM.2.1 hX hbl (Nat.not_le.mpr hbl) hw.2.2.2.1 (sc_in (d := 1) rfl (by omega) hL) dL_law_758 ?_
  refine lv_aload_n hM.1 hM.2.1 dL_law_759 rfl (lv_at hl 0 rfl) ?_
  refine lv_iload_n hM.1 hM.2.1 dL_law_760 rfl (lv_at hl 3 rfl) ?_
  refine lv_iconst (v := 2) hM.1 hM.2.1 dL_law_761 ic_2 ?_
  refine lv_iadd hM.1 hM.2.1 dL_law_762 ?_
  refine va_sld hM.1 hM.2.1 hX hbl (Nat.not_le.mpr hbl) hw.2.2.2.1 (sc_in (d := 2) rfl (by omega) hL) dL_law_763 ?_
  refine lv_aload_n hM.1 hM.2.1 dL_law_764 rfl (lv_at hl 0 rfl) ?_
  refine lv_iload_n hM.1 hM.2.1 dL_law_765 rfl (lv_at hl 3 rfl) ?_
  refine lv_iconst (v := 3) hM.1 hM.2.1 dL_law_766 ic_3 ?_
  refine lv_iadd hM.1 hM.2.1 dL_law_767 ?_
  refine va_sld hM.1 hM.2.1 hX hbl (Nat.not_le.mpr hbl) hw.2.2.2.1 (sc_in (d := 3) rfl (by omega) hL) dL_law_768 ?_
  refine y_callVI (rest := []) hM hw (ct_X11_cheapestAt l oC (xs (nI j + 1).toNatClampNeg) (xs (nI j + 2).toNatClampNeg) (xs (nI j + 3).toNatClampNeg)) [.int (xs (nI j + 1).toNatClampNeg), .int (xs (nI j + 2).toNatClampNeg), .int (xs (nI j + 3).toNatClampNeg)] (okX11.o oC) rfl rfl rfl (gi_V ml_L_96 im_X11_cheapestAt sl_X11_cheapestAt in_X11 kc_X11_cheapestAt) hd_X11_cheapestAt rfl ⟨Nat.le_of_ble_eq_true rfl, Nat.le_of_ble_eq_true rfl⟩ rfl (Nat.le_of_ble_eq_true rfl) hl.1 hF1 hcs dL_law_769 (fun H locs hw => ?_)
  refine lv_aload_n hM.1 hM.2.1 dL_law_772 rfl (lv_at hl 2 rfl) ?_
  refine lv_aload_n hM.1 hM.2.1 dL_law_773 rfl (lv_at hl 0 rfl) ?_
  refine lv_iload_n hM.1 hM.2.1 dL_law_774 rfl (lv_at hl 3 rfl) ?_
  refine lv_iconst (v := 1) hM.1 hM.2.1 dL_law_775 ic_1 ?_
  refine lv_iadd hM.1 hM.2.1 dL_law_776 ?_
  refine va_sld hM.1 hM.2.1 hX hbl (Nat.not_le.mpr hbl) hw.2.2.2.1 (sc_in (d := 1) rfl (by omega) hL) dL_law_777 ?_
  refine lv_aload_n hM.1 hM.2.1 dL_law_778 rfl (lv_at hl 0 rfl) ?_
  refine lv_iload_n hM.1 hM.2.1 dL_law_779 rfl (lv_at hl 3 rfl) ?_
  refine lv_iconst (v := 2) hM.1 hM.2.1 dL_law_780 ic_2 ?_
  refine lv_iadd hM.1 hM.2.1 dL_law_781 ?_
  refine va_sld hM.1 hM.2.1 hX hbl (Nat.not_le.mpr hbl) hw.2.2.2.1 (sc_in (d := 2) rfl (by omega) hL) dL_law_782 ?_
  refine lv_aload_n hM.1 hM.2.1 dL_law_783 rfl (lv_at hl 0 rfl) ?_
  refine lv_iload_n hM.1 hM.2.1 dL_law_784 rfl (lv_at hl 3 rfl) ?_
  refine lv_iconst (v := 3) hM.1 hM.2.1 dL_law_785 ic_3 ?_
  refine lv_iadd hM.1 hM.2.1 dL_law_786 ?_
  refine va_sld hM.1 hM.2.1 hX hbl (Nat.not_le.mpr hbl) hw.2.2.2.1 (sc_in (d := 3) rfl (by omega) hL) dL_law_787 ?_
  have hw := wd_swap hw
  refine y_callVI (rest := [.int v]) hM hw (ct_X12_cheapestAt l oR (xs (nI j + 1).toNatClampNeg) (xs (nI j + 2).toNatClampNeg) (xs (nI j + 3).toNatClampNeg)) [.int (xs (nI j + 1).toNatClampNeg), .int (xs (nI j + 2).toNatClampNeg), .int (xs (nI j + 3).toNatClampNeg)] (okX12.o oR) rfl rfl rfl (gi_V ml_L_100 im_X12_cheapestAt sl_X12_cheapestAt in_X12 kc_X12_cheapestAt) hd_X12_cheapestAt rfl ⟨Nat.le_of_ble_eq_true rfl, Nat.le_of_ble_eq_true rfl⟩ rfl (Nat.le_of_ble_eq_true rfl) hl.1 hF2 hcs dL_law_788 (fun H locs hw => ?_)
  have hw := wd_swap hw
  refine lv_icmp_eq (tgt := 1235) hM.1 hM.2.1 dL_law_791 (by decide) (fun _ => ?_) (fun q => absurd rfl q)
  exact kk _ _ H locs hJ hw
set_option maxHeartbeats 4000000 in
set_option maxRecDepth 100000 in
theorem law_c20 {p : Program} {l : Launch} {e : Env} {s : State} {m : MethodId} {below : List Frame} {meth : Method} {c : Code} {Q : State → Prop} {D : va_G} {G : GG} {adC adR : Nat → Nat} {layC layR : List KK} {b L j : Nat} {xs : Nat → Int32} {hc hr : PH} {H : Heap} {locs : List Loc} {ls : Array Slot} {cells slots : Nat} {J : PH → PH → Prop} (hM : CallFix p m c cL_law 4 s #[Value.ref b] lw_g RL) (hX : va_X b L xs s s.heap) (hbl : b < s.heap.size) (hcs : cells ≤ room_1.cells ∧ slots ≤ room_1.slots) (oC : okX11 layC) (oR : okX12 layR) (hL : L ≤ 3072) (hj : j + 5 < L) (hl : lv_has ls 4 [(0, .ref b), (1, .ref (adC 0)), (2, .ref (adR 0)), (3, .int (nI j))]) (hw : Wd D G (fun q : Nat => s.heap.size ≤ q) s.heap adC layC (encA adR G hr 0 layR) hc s H locs) (hop : ∃ (v : Int32) (hr' : PH), c_X11_two (xs (nI j + 1).toNatClampNeg) hc = some v ∧ c_X12_two (xs (nI j + 1).toNatClampNeg) hr = some (v, hr') ∧ J hc hr') (kk : ∀ (hc' hr' : PH) (H : Heap) (locs : List Loc), J hc' hr' → Wd D G (fun q : Nat => s.heap.size ≤ q) s.heap adC layC (encA adR G hr' 0 layR) hc' s H locs → W p l e room_1 s m #[Value.ref b] below meth c H locs cells slots Q (F0 m 1235 ls [])) : W p l e room_1 s m #[Value.ref b] below meth c H locs cells slots Q (F0 m 796 ls []) := by
  obtain ⟨v, hr', hF1, hF2, hJ⟩ := hop
  refine lv_aload_n hM.1 hM.2.1 dL_law_796 rfl (lv_at hl 1 rfl) ?_
  refine lv_aload_n hM.1 hM.2.1 dL_law_797 rfl (lv_at hl 0 rfl) ?_
  refine lv_iload_n hM.1 hM.2.1 dL_law_798 rfl (lv_at hl 3 rfl) ?_
  refine lv_iconst (v := 1) hM.1 hM.2.1 dL_law_799 ic_1 ?_
  refine lv_iadd hM.1 hM.2.1 dL_law_800 ?_
  refine va_sld hM.1 hM.2.1 hX hbl (Nat.not_le.mpr hbl) hw.2.2.2.1 (sc_in (d := 1) rfl (by omega) hL) dL_law_801 ?_
  refine y_callVI (rest := []) hM hw (ct_X11_two l oC (xs (nI j + 1).toNatClampNeg)) [.int (xs (nI j + 1).toNatClampNeg)] (okX11.o oC) rfl rfl rfl (gi_V ml_L_101 im_X11_two sl_X11_two in_X11 kc_X11_two) hd_X11_two rfl ⟨Nat.le_of_ble_eq_true rfl, Nat.le_of_ble_eq_true rfl⟩ rfl (Nat.le_of_ble_eq_true rfl) hl.1 (rd_mk hF1) hcs dL_law_802 (fun H locs hw => ?_)
  refine lv_aload_n hM.1 hM.2.1 dL_law_805 rfl (lv_at hl 2 rfl) ?_
  refine lv_aload_n hM.1 hM.2.1 dL_law_806 rfl (lv_at hl 0 rfl) ?_
  refine lv_iload_n hM.1 hM.2.1 dL_law_807 rfl (lv_at hl 3 rfl) ?_
  refine lv_iconst (v := 1) hM.1 hM.2.1 dL_law_808 ic_1 ?_
  refine lv_iadd hM.1 hM.2.1 dL_law_809 ?_
  refine va_sld hM.1 hM.2.1 hX hbl (Nat.not_le.mpr hbl) hw.2.2.2.1 (sc_in (d := 1) rfl (by omega) hL) dL_law_810 ?_
  have hw := wd_swap hw
  refine y_callVI (rest := [.int v]) hM hw (ct_X12_two l oR (xs (nI j + 1).toNatClampNeg)) [.int (xs (nI j + 1).toNatClampNeg)] (okX12.o oR) rfl rfl rfl (gi_V ml_L_104 im_X12_two sl_X12_two in_X12 kc_X12_two) hd_X12_two rfl ⟨Nat.le_of_ble_eq_true rfl, Nat.le_of_ble_eq_true rfl⟩ rfl (Nat.le_of_ble_eq_true rfl) hl.1 hF2 hcs dL_law_811 (fun H locs hw => ?_)
  have hw := wd_swap hw
  refine lv_icmp_eq (tgt := 1235) hM.1 hM.2.1 dL_law_814 (by decide) (fun _ => ?_) (fun q => absurd rfl q)
  exact kk _ _ H locs hJ hw
set_option maxHeartbeats 4000000 in
set_option maxRecDepth 100000 in
theorem law_c21 {p : Program} {l : Launch} {e : Env} {s : State} {m : MethodId} {below : List Frame} {meth : Method} {c : Code} {Q : State → Prop} {D : va_G} {G : GG} {adC adR : Nat → Nat} {layC layR : List KK} {b L j : Nat} {xs : Nat → Int32} {hc hr : PH} {H : Heap} {locs : List Loc} {ls : Array Slot} {cells slots : Nat} {J : PH → PH → Prop} (hM : CallFix p m c cL_law 4 s #[Value.ref b] lw_g RL) (hX : va_X b L xs s s.heap) (hbl : b < s.heap.size) (hcs : cells ≤ room_1.cells ∧ slots ≤ room_1.slots) (oC : okX11 layC) (oR : okX12 layR) (hL : L ≤ 3072) (hj : j + 5 < L) (hl : lv_has ls 4 [(0, .ref b), (1, .ref (adC 0)), (2, .ref (adR 0)), (3, .int (nI j))]) (hw : Wd D G (fun q : Nat => s.heap.size ≤ q) s.heap adC layC (encA adR G hr 0 layR) hc s H locs) (hop : ∃ (v : Int32), c_X11_rumour (xs (nI j + 1).toNatClampNeg) (xs (nI j + 2).toNatClampNeg) hc = some v ∧ c_X12_rumour (xs (nI j + 1).toNatClampNeg) (xs (nI j + 2).toNatClampNeg) hr = some v ∧ J hc hr) (kk : ∀ (hc' hr' : PH) (H : Heap) (locs : List Loc), J hc' hr' → Wd D G (fun q : Nat => s.heap.size ≤ q) s.heap adC layC (encA adR G hr' 0 layR) hc' s H locs → W p l e room_1 s m #[Value.ref b] below meth c H locs cells slots Q (F0 m 1235 ls [])) : W p l e room_1 s m #[Value.ref b] below meth c H locs cells slots Q (F0 m 819 ls []) := by
  obtain ⟨v, hF1, hF2, hJ⟩ := hop
  refine lv_aload_n hM.1 hM.2.1 dL_law_819 rfl (lv_at hl 1 rfl) ?_
  refine lv_aload_n hM.1 hM.2.1 dL_law_820 rfl (lv_at hl 0 rfl) ?_
  refine lv_iload_n hM.1 hM.2.1 dL_law_821 rfl (lv_at hl 3 rfl) ?_
  refine lv_iconst (v := 1) hM.1 hM.2.1 dL_law_822 ic_1 ?_
  refine lv_iadd hM.1 hM.2.1 dL_law_823 ?_
  refine va_sld hM.1 hM.2.1 hX hbl (Nat.not_le.mpr hbl) hw.2.2.2.1 (sc_in (d := 1) rfl (by omega) hL) dL_law_824 ?_
  refine lv_aload_n hM.1 hM.2.1 dL_law_825 rfl (lv_at hl 0 rfl) ?_
  refine lv_iload_n hM.1 hM.2.1 dL_law_826 rfl (lv_at hl 3 rfl) ?_
  refine lv_iconst (v := 2) hM.1 hM.2.1 dL_law_827 ic_2 ?_
  refine lv_iadd hM.1 hM.2.1 dL_law_828 ?_
  refine va_sld hM.1 hM.2.1 hX hbl (Nat.not_le.mpr hbl) hw.2.2.2.1 (sc_in (d := 2) rfl (by omega) hL) dL_law_829 ?_
  refine y_callVI (rest := []) hM hw (ct_X11_rumour l oC (xs (nI j + 1).toNatClampNeg) (xs (nI j + 2).toNatClampNeg)) [.int (xs (nI j + 1).toNatClampNeg), .int (xs (nI j + 2).toNatClampNeg)] (okX11.o oC) rfl rfl rfl (gi_V ml_L_105 im_X11_rumour sl_X11_rumour in_X11 kc_X11_rumour) hd_X11_rumour rfl ⟨Nat.le_of_ble_eq_true rfl, Nat.le_of_ble_eq_true rfl⟩ rfl (Nat.le_of_ble_eq_true rfl) hl.1 (rd_mk hF1) hcs dL_law_830 (fun H locs hw => ?_)
  refine lv_aload_n hM.1 hM.2.1 dL_law_833 rfl (lv_at hl 2 rfl) ?_
  refine lv_aload_n hM.1 hM.2.1 dL_law_834 rfl (lv_at hl 0 rfl) ?_
  refine lv_iload_n hM.1 hM.2.1 dL_law_835 rfl (lv_at hl 3 rfl) ?_
  refine lv_iconst (v := 1) hM.1 hM.2.1 dL_law_836 ic_1 ?_
  refine lv_iadd hM.1 hM.2.1 dL_law_837 ?_
  refine va_sld hM.1 hM.2.1 hX hbl (Nat.not_le.mpr hbl) hw.2.2.2.1 (sc_in (d := 1) rfl (by omega) hL) dL_law_838 ?_
  refine lv_aload_n hM.1 hM.2.1 dL_law_839 rfl (lv_at hl 0 rfl) ?_
  refine lv_iload_n hM.1 hM.2.1 dL_law_840 rfl (lv_at hl 3 rfl) ?_
  refine lv_iconst (v := 2) hM.1 hM.2.1 dL_law_841 ic_2 ?_
  refine lv_iadd hM.1 hM.2.1 dL_law_842 ?_
  refine va_sld hM.1 hM.2.1 hX hbl (Nat.not_le.mpr hbl) hw.2.2.2.1 (sc_in (d := 2) rfl (by omega) hL) dL_law_843 ?_
  have hw := wd_swap hw
  refine y_callVI (rest := [.int v]) hM hw (ct_X12_rumour l oR (xs (nI j + 1).toNatClampNeg) (xs (nI j + 2).toNatClampNeg)) [.int (xs (nI j + 1).toNatClampNeg), .int (xs (nI j + 2).toNatClampNeg)] (okX12.o oR) rfl rfl rfl (gi_V ml_L_108 im_X12_rumour sl_X12_rumour in_X12 kc_X12_rumour) hd_X12_rumour rfl ⟨Nat.le_of_ble_eq_true rfl, Nat.le_of_ble_eq_true rfl⟩ rfl (Nat.le_of_ble_eq_true rfl) hl.1 (rd_mk hF2) hcs dL_law_844 (fun H locs hw => ?_)
  have hw := wd_swap hw
  refine lv_icmp_eq (tgt := 1235) hM.1 hM.2.1 dL_law_847 (by decide) (fun _ => ?_) (fun q => absurd rfl q)
  exact kk _ _ H locs hJ hw
set_option maxHeartbeats 4000000 in
set_option maxRecDepth 100000 in
theorem law_c22 {p : Program} {l : Launch} {e : Env} {s : State} {m : MethodId} {below : List Frame} {meth : Method} {c : Code} {Q : State → Prop} {D : va_G} {G : GG} {adC adR : Nat → Nat} {layC layR : List KK} {b L j : Nat} {xs : Nat → Int32} {hc hr : PH} {H : Heap} {locs : List Loc} {ls : Array Slot} {cells slots : Nat} {J : PH → PH → Prop} (hM : CallFix p m c cL_law 4 s #[Value.ref b] lw_g RL) (hX : va_X b L xs s s.heap) (hbl : b < s.heap.size) (hcs : cells ≤ room_1.cells ∧ slots ≤ room_1.slots) (oC : okX11 layC) (oR : okX12 layR) (hL : L ≤ 3072) (hj : j + 5 < L) (hl : lv_has ls 4 [(0, .ref b), (1, .ref (adC 0)), (2, .ref (adR 0)), (3, .int (nI j))]) (hw : Wd D G (fun q : Nat => s.heap.size ≤ q) s.heap adC layC (encA adR G hr 0 layR) hc s H locs) (hop : ∃ (v : Int32), c_X11_apart (xs (nI j + 1).toNatClampNeg) hc = some v ∧ c_X12_apart (xs (nI j + 1).toNatClampNeg) hr = some v ∧ J hc hr) (kk : ∀ (hc' hr' : PH) (H : Heap) (locs : List Loc), J hc' hr' → Wd D G (fun q : Nat => s.heap.size ≤ q) s.heap adC layC (encA adR G hr' 0 layR) hc' s H locs → W p l e room_1 s m #[Value.ref b] below meth c H locs cells slots Q (F0 m 1235 ls [])) : W p l e room_1 s m #[Value.ref b] below meth c H locs cells slots Q (F0 m 852 ls []) := by
  obtain ⟨v, hF1, hF2, hJ⟩ := hop
  refine lv_aload_n hM.1 hM.2.1 dL_law_852 rfl (lv_at hl 1 rfl) ?_
  refine lv_aload_n hM.1 hM.2.1 dL_law_853 rfl (lv_at hl 0 rfl) ?_
  refine lv_iload_n hM.1 hM.2.1 dL_law_854 rfl (lv_at hl 3 rfl) ?_
  refine lv_iconst (v := 1) hM.1 hM.2.1 dL_law_855 ic_1 ?_
  refine lv_iadd hM.1 hM.2.1 dL_law_856 ?_
  refine va_sld hM.1 hM.2.1 hX hbl (Nat.not_le.mpr hbl) hw.2.2.2.1 (sc_in (d := 1) rfl (by omega) hL) dL_law_857 ?_
  refine y_callVI (rest := []) hM hw (ct_X11_apart l oC (xs (nI j + 1).toNatClampNeg)) [.int (xs (nI j + 1).toNatClampNeg)] (okX11.o oC) rfl rfl rfl (gi_V ml_L_109 im_X11_apart sl_X11_apart in_X11 kc_X11_apart) hd_X11_apart rfl ⟨Nat.le_of_ble_eq_true rfl, Nat.le_of_ble_eq_true rfl⟩ rfl (Nat.le_of_ble_eq_true rfl) hl.1 (rd_mk hF1) hcs dL_law_858 (fun H locs hw => ?_)
  refine lv_aload_n hM.1 hM.2.1 dL_law_861 rfl (lv_at hl 2 rfl) ?_
  refine lv_aload_n hM.1 hM.2.1 dL_law_862 rfl (lv_at hl 0 rfl) ?_
  refine lv_iload_n hM.1 hM.2.1 dL_law_863 rfl (lv_at hl 3 rfl) ?_
  refine lv_iconst (v := 1) hM.1 hM.2.1 dL_law_864 ic_1 ?_
  refine lv_iadd hM.1 hM.2.1 dL_law_865 ?_
  refine va_sld hM.1 hM.2.1 hX hbl (Nat.not_le.mpr hbl) hw.2.2.2.1 (sc_in (d := 1) rfl (by omega) hL) dL_law_866 ?_
  have hw := wd_swap hw
  refine y_callVI (rest := [.int v]) hM hw (ct_X12_apart l oR (xs (nI j + 1).toNatClampNeg)) [.int (xs (nI j + 1).toNatClampNeg)] (okX12.o oR) rfl rfl rfl (gi_V ml_L_112 im_X12_apart sl_X12_apart in_X12 kc_X12_apart) hd_X12_apart rfl ⟨Nat.le_of_ble_eq_true rfl, Nat.le_of_ble_eq_true rfl⟩ rfl (Nat.le_of_ble_eq_true rfl) hl.1 (rd_mk hF2) hcs dL_law_867 (fun H locs hw => ?_)
  have hw := wd_swap hw
  refine lv_icmp_eq (tgt := 1235) hM.1 hM.2.1 dL_law_870 (by decide) (fun _ => ?_) (fun q => absurd rfl q)
  exact kk _ _ H locs hJ hw
set_option maxHeartbeats 4000000 in
set_option maxRecDepth 100000 in
theorem law_c23 {p : Program} {l : Launch} {e : Env} {s : State} {m : MethodId} {below : List Frame} {meth : Method} {c : Code} {Q : State → Prop} {D : va_G} {G : GG} {adC adR : Nat → Nat} {layC layR : List KK} {b L j : Nat} {xs : Nat → Int32} {hc hr : PH} {H : Heap} {locs : List Loc} {ls : Array Slot} {cells slots : Nat} {J : PH → PH → Prop} (hM : CallFix p m c cL_law 4 s #[Value.ref b] lw_g RL) (hX : va_X b L xs s s.heap) (hbl : b < s.heap.size) (hcs : cells ≤ room_1.cells ∧ slots ≤ room_1.slots) (oC : okX11 layC) (oR : okX12 layR) (hL : L ≤ 3072) (hj : j + 5 < L) (hl : lv_has ls 4 [(0, .ref b), (1, .ref (adC 0)), (2, .ref (adR 0)), (3, .int (nI j))]) (hw : Wd D G (fun q : Nat => s.heap.size ≤ q) s.heap adC layC (encA adR G hr 0 layR) hc s H locs) (hop : ∃ (v : Int32) (hc' : PH), c_X11_sellers (xs (nI j + 1).toNatClampNeg) (xs (nI j + 2).toNatClampNeg) (xs (nI j + 3).toNatClampNeg) (xs (nI j + 4).toNatClampNeg) (xs (nI j + 5).toNatClampNeg) hc = some (v, hc') ∧ c_X12_sellers (xs (nI j + 1).toNatClampNeg) (xs (nI j + 2).toNatClampNeg) (xs (nI j + 3).toNatClampNeg) (xs (nI j + 4).toNatClampNeg) (xs (nI j + 5).toNatClampNeg) = some v ∧ J hc' hr) (kk : ∀ (hc' hr' : PH) (H : Heap) (locs : List Loc), J hc' hr' → Wd D G (fun q : Nat => s.heap.size ≤ q) s.heap adC layC (encA adR G hr' 0 layR) hc' s H locs → W p l e room_1 s m #[Value.ref b] below meth c H locs cells slots Q (F0 m 1235 ls [])) : W p l e room_1 s m #[Value.ref b] below meth c H locs cells slots Q (F0 m 875 ls []) := by
  obtain ⟨v, hc', hF1, hF2, hJ⟩ := hop
  refine lv_aload_n hM.1 hM.2.1 dL_law_875 rfl (lv_at hl 1 rfl) ?_
  refine lv_aload_n hM.1 hM.2.1 dL_law_876 rfl (lv_at hl 0 rfl) ?_
  refine lv_iload_n hM.1 hM.2.1 dL_law_877 rfl (lv_at hl 3 rfl) ?_
  refine lv_iconst (v := 1) hM.1 hM.2.1 dL_law_878 ic_1 ?_
  refine lv_iadd hM.1 hM.2.1 dL_law_879 ?_
  refine va_sld hM.1 hM.2.1 hX hbl (Nat.not_le.mpr hbl) hw.2.2.2.1 (sc_in (d := 1) rfl (by omega) hL) dL_law_880 ?_
  refine lv_aload_n hM.1 hM.2.1 dL_law_881 rfl (lv_at hl 0 rfl) ?_
  refine lv_iload_n hM.1 hM.2.1 dL_law_882 rfl (lv_at hl 3 rfl) ?_
  refine lv_iconst (v := 2) hM.1 hM.2.1 dL_law_883 ic_2 ?_
  refine lv_iadd hM.1 hM.2.1 dL_law_884 ?_
  refine va_sld hM.1 hM.2.1 hX hbl (Nat.not_le.mpr hbl) hw.2.2.2.1 (sc_in (d := 2) rfl (by omega) hL) dL_law_885 ?_
  refine lv_aload_n hM.1 hM.2.1 dL_law_886 rfl (lv_at hl 0 rfl) ?_
  refine lv_iload_n hM.1 hM.2.1 dL_law_887 rfl (lv_at hl 3 rfl) ?_
  refine lv_iconst (v := 3) hM.1 hM.2.1 dL_law_888 ic_3 ?_
  refine lv_iadd hM.1 hM.2.1 dL_law_889 ?_
  refine va_sld hM.1 hM.2.1 hX hbl (Nat.not_le.mpr hbl) hw.2.2.2.1 (sc_in (d := 3) rfl (by omega) hL) dL_law_890 ?_
  refine lv_aload_n hM.1 hM.2.1 dL_law_891 rfl (lv_at hl 0 rfl) ?_
  refine lv_iload_n hM.1 hM.2.1 dL_law_892 rfl (lv_at hl 3 rfl) ?_
  refine lv_iconst (v := 4) hM.1 hM.2.1 dL_law_893 ic_4 ?_
  refine lv_iadd hM.1 hM.2.1 dL_law_894 ?_
  refine va_sld hM.1 hM.2.1 hX hbl (Nat.not_le.mpr hbl) hw.2.2.2.1 (sc_in (d := 4) rfl (by omega) hL) dL_law_895 ?_
  refine lv_aload_n hM.1 hM.2.1 dL_law_896 rfl (lv_at hl 0 rfl) ?_
  refine lv_iload_n hM.1 hM.2.1 dL_law_897 rfl (lv_at hl 3 rfl) ?_
  refine lv_iconst (v := 5) hM.1 hM.2.1 dL_law_898 ic_5 ?_
  refine lv_iadd hM.1 hM.2.1 dL_law_899 ?_
  refine va_sld hM.1 hM.2.1 hX hbl (Nat.not_le.mpr hbl) hw.2.2.2.1 (sc_in (d := 5) rfl (by omega) hL) dL_law_900 ?_
  refine y_callVI (rest := []) hM hw (ct_X11_sellers l oC (xs (nI j + 1).toNatClampNeg) (xs (nI j + 2).toNatClampNeg) (xs (nI j + 3).toNatClampNeg) (xs (nI j + 4).toNatClampNeg) (xs (nI j + 5).toNatClampNeg)) [.int (xs (nI j + 1).toNatClampNeg), .int (xs (nI j + 2).toNatClampNeg), .int (xs (nI j + 3).toNatClampNeg), .int (xs (nI j + 4).toNatClampNeg), .int (xs (nI j + 5).toNatClampNeg)] (okX11.o oC) rfl rfl rfl (gi_V ml_L_113 im_X11_sellers sl_X11_sellers in_X11 kc_X11_sellers) hd_X11_sellers rfl ⟨Nat.le_of_ble_eq_true rfl, Nat.le_of_ble_eq_true rfl⟩ rfl (Nat.le_of_ble_eq_true rfl) hl.1 hF1 hcs dL_law_901 (fun H locs hw => ?_)
  refine lv_aload_n hM.1 hM.2.1 dL_law_904 rfl (lv_at hl 2 rfl) ?_
  refine lv_aload_n hM.1 hM.2.1 dL_law_905 rfl (lv_at hl 0 rfl) ?_
  refine lv_iload_n hM.1 hM.2.1 dL_law_906 rfl (lv_at hl 3 rfl) ?_
  refine lv_iconst (v := 1) hM.1 hM.2.1 dL_law_907 ic_1 ?_
  refine lv_iadd hM.1 hM.2.1 dL_law_908 ?_
  refine va_sld hM.1 hM.2.1 hX hbl (Nat.not_le.mpr hbl) hw.2.2.2.1 (sc_in (d := 1) rfl (by omega) hL) dL_law_909 ?_
  refine lv_aload_n hM.1 hM.2.1 dL_law_910 rfl (lv_at hl 0 rfl) ?_
  refine lv_iload_n hM.1 hM.2.1 dL_law_911 rfl (lv_at hl 3 rfl) ?_
  refine lv_iconst (v := 2) hM.1 hM.2.1 dL_law_912 ic_2 ?_
  refine lv_iadd hM.1 hM.2.1 dL_law_913 ?_
  refine va_sld hM.1 hM.2.1 hX hbl (Nat.not_le.mpr hbl) hw.2.2.2.1 (sc_in (d := 2) rfl (by omega) hL) dL_law_914 ?_
  refine lv_aload_n hM.1 hM.2.1 dL_law_915 rfl (lv_at hl 0 rfl) ?_
  refine lv_iload_n hM.1 hM.2.1 dL_law_916 rfl (lv_at hl 3 rfl) ?_
  refine lv_iconst (v := 3) hM.1 hM.2.1 dL_law_917 ic_3 ?_
  refine lv_iadd hM.1 hM.2.1 dL_law_918 ?_
  refine va_sld hM.1 hM.2.1 hX hbl (Nat.not_le.mpr hbl) hw.2.2.2.1 (sc_in (d := 3) rfl (by omega) hL) dL_law_919 ?_
  refine lv_aload_n hM.1 hM.2.1 dL_law_920 rfl (lv_at hl 0 rfl) ?_
  refine lv_iload_n hM.1 hM.2.1 dL_law_921 rfl (lv_at hl 3 rfl) ?_
  refine lv_iconst (v := 4) hM.1 hM.2.1 dL_law_922 ic_4 ?_
  refine lv_iadd hM.1 hM.2.1 dL_law_923 ?_
  refine va_sld hM.1 hM.2.1 hX hbl (Nat.not_le.mpr hbl) hw.2.2.2.1 (sc_in (d := 4) rfl (by omega) hL) dL_law_924 ?_
  refine lv_aload_n hM.1 hM.2.1 dL_law_925 rfl (lv_at hl 0 rfl) ?_
  refine lv_iload_n hM.1 hM.2.1 dL_law_926 rfl (lv_at hl 3 rfl) ?_
  refine lv_iconst (v := 5) hM.1 hM.2.1 dL_law_927 ic_5 ?_
  refine lv_iadd hM.1 hM.2.1 dL_law_928 ?_
  refine va_sld hM.1 hM.2.1 hX hbl (Nat.not_le.mpr hbl) hw.2.2.2.1 (sc_in (d := 5) rfl (by omega) hL) dL_law_929 ?_
  have hw := wd_swap hw
  refine y_callVI (rest := [.int v]) hM hw (ct_X12_sellers l oR (xs (nI j + 1).toNatClampNeg) (xs (nI j + 2).toNatClampNeg) (xs (nI j + 3).toNatClampNeg) (xs (nI j + 4).toNatClampNeg) (xs (nI j + 5).toNatClampNeg)) [.int (xs (nI j + 1).toNatClampNeg), .int (xs (nI j + 2).toNatClampNeg), .int (xs (nI j + 3).toNatClampNeg), .int (xs (nI j + 4).toNatClampNeg), .int (xs (nI j + 5).toNatClampNeg)] (okX12.o oR) rfl rfl rfl (gi_V ml_L_116 im_X12_sellers sl_X12_sellers in_X12 kc_X12_sellers) hd_X12_sellers rfl ⟨Nat.le_of_ble_eq_true rfl, Nat.le_of_ble_eq_true rfl⟩ rfl (Nat.le_of_ble_eq_true rfl) hl.1 (rd_mk hF2) hcs dL_law_930 (fun H locs hw => ?_)
  have hw := wd_swap hw
  refine lv_icmp_eq (tgt := 1235) hM.1 hM.2.1 dL_law_933 (by decide) (fun _ => ?_) (fun q => absurd rfl q)
  exact kk _ _ H locs hJ hw
set_option maxHeartbeats 4000000 in
set_option maxRecDepth 100000 in
theorem law_c24 {p : Program} {l : Launch} {e : Env} {s : State} {m : MethodId} {below : List Frame} {meth : Method} {c : Code} {Q : State → Prop} {D : va_G} {G : GG} {adC adR : Nat → Nat} {layC layR : List KK} {b L j : Nat} {xs : Nat → Int32} {hc hr : PH} {H : Heap} {locs : List Loc} {ls : Array Slot} {cells slots : Nat} {J : PH → PH → Prop} (hM : CallFix p m c cL_law 4 s #[Value.ref b] lw_g RL) (hX : va_X b L xs s s.heap) (hbl : b < s.heap.size) (hcs : cells ≤ room_1.cells ∧ slots ≤ room_1.slots) (oC : okX11 layC) (oR : okX12 layR) (hL : L ≤ 3072) (hj : j + 5 < L) (hl : lv_has ls 4 [(0, .ref b), (1, .ref (adC 0)), (2, .ref (adR 0)), (3, .int (nI j))]) (hw : Wd D G (fun q : Nat => s.heap.size ≤ q) s.heap adC layC (encA adR G hr 0 layR) hc s H locs) (hop : ∃ (v : Int32) (hc' : PH) (hr' : PH), c_X11_calm (xs (nI j + 1).toNatClampNeg) (xs (nI j + 2).toNatClampNeg) (xs (nI j + 3).toNatClampNeg) hc = some (v, hc') ∧ c_X12_calm (xs (nI j + 1).toNatClampNeg) (xs (nI j + 2).toNatClampNeg) (xs (nI j + 3).toNatClampNeg) hr = some (v, hr') ∧ J hc' hr') (kk : ∀ (hc' hr' : PH) (H : Heap) (locs : List Loc), J hc' hr' → Wd D G (fun q : Nat => s.heap.size ≤ q) s.heap adC layC (encA adR G hr' 0 layR) hc' s H locs → W p l e room_1 s m #[Value.ref b] below meth c H locs cells slots Q (F0 m 1235 ls [])) : W p l e room_1 s m #[Value.ref b] below meth c H locs cells slots Q (F0 m 938 ls []) := by
  obtain ⟨v, hc', hr', hF1, hF2, hJ⟩ := hop
  refine lv_aload_n hM.1 hM.2.1 dL_law_938 rfl (lv_at hl 1 rfl) ?_
  refine lv_aload_n hM.1 hM.2.1 dL_law_939 rfl (lv_at hl 0 rfl) ?_
  refine lv_iload_n hM.1 hM.2.1 dL_law_940 rfl (lv_at hl 3 rfl) ?_
  refine lv_iconst (v := 1) hM.1 hM.2.1 dL_law_941 ic_1 ?_
  refine lv_iadd hM.1 hM.2.1 dL_law_942 ?_
  refine va_sld hM.1 hM.2.1 hX hbl (Nat.not_le.mpr hbl) hw.2.2.2.1 (sc_in (d := 1) rfl (by omega) hL) dL_law_943 ?_
  refine lv_aload_n hM.1 hM.2.1 dL_law_944 rfl (lv_at hl 0 rfl) ?_
  refine lv_iload_n hM.1 hM.2.1 dL_law_945 rfl (lv_at hl 3 rfl) ?_
  refine lv_iconst (v := 2) hM.1 hM.2.1 dL_law_946 ic_2 ?_
  refine lv_iadd hM.1 hM.2.1 dL_law_947 ?_
  refine va_sld hM.1 hM.2.1 hX hbl (Nat.not_le.mpr hbl) hw.2.2.2.1 (sc_in (d := 2) rfl (by omega) hL) dL_law_948 ?_
  refine lv_aload_n hM.1 hM.2.1 dL_law_949 rfl (lv_at hl 0 rfl) ?_
  refine lv_iload_n hM.1 hM.2.1 dL_law_950 rfl (lv_at hl 3 rfl) ?_
  refine lv_iconst (v := 3) hM.1 hM.2.1 dL_law_951 ic_3 ?_
  refine lv_iadd hM.1 hM.2.1 dL_law_952 ?_
  refine va_sld hM.1 hM.2.1 hX hbl (Nat.not_le.mpr hbl) hw.2.2.2.1 (sc_in (d := 3) rfl (by omega) hL) dL_law_953 ?_
  refine y_callVI (rest := []) hM hw (ct_X11_calm l oC (xs (nI j + 1).toNatClampNeg) (xs (nI j + 2).toNatClampNeg) (xs (nI j + 3).toNatClampNeg)) [.int (xs (nI j + 1).toNatClampNeg), .int (xs (nI j + 2).toNatClampNeg), .int (xs (nI j + 3).toNatClampNeg)] (okX11.o oC) rfl rfl rfl (gi_V ml_L_117 im_X11_calm sl_X11_calm in_X11 kc_X11_calm) hd_X11_calm rfl ⟨Nat.le_of_ble_eq_true rfl, Nat.le_of_ble_eq_true rfl⟩ rfl (Nat.le_of_ble_eq_true rfl) hl.1 hF1 hcs dL_law_954 (fun H locs hw => ?_)
  refine lv_aload_n hM.1 hM.2.1 dL_law_957 rfl (lv_at hl 2 rfl) ?_
  refine lv_aload_n hM.1 hM.2.1 dL_law_958 rfl (lv_at hl 0 rfl) ?_
  refine lv_iload_n hM.1 hM.2.1 dL_law_959 rfl (lv_at hl 3 rfl) ?_
  refine lv_iconst (v := 1) hM.1 hM.2.1 dL_law_960 ic_1 ?_
  refine lv_iadd hM.1 hM.2.1 dL_law_961 ?_
  refine va_sld hM.1 hM.2.1 hX hbl (Nat.not_le.mpr hbl) hw.2.2.2.1 (sc_in (d := 1) rfl (by omega) hL) dL_law_962 ?_
  refine lv_aload_n hM.1 hM.2.1 dL_law_963 rfl (lv_at hl 0 rfl) ?_
  refine lv_iload_n hM.1 hM.2.1 dL_law_964 rfl (lv_at hl 3 rfl) ?_
  refine lv_iconst (v := 2) hM.1 hM.2.1 dL_law_965 ic_2 ?_
  refine lv_iadd hM.1 hM.2.1 dL_law_966 ?_
  refine va_sld hM.1 hM.2.1 hX hbl (Nat.not_le.mpr hbl) hw.2.2.2.1 (sc_in (d := 2) rfl (by omega) hL) dL_law_967 ?_
  refine lv_aload_n hM.1 hM.2.1 dL_law_968 rfl (lv_at hl 0 rfl) ?_
  refine lv_iload_n hM.1 hM.2.1 dL_law_969 rfl (lv_at hl 3 rfl) ?_
  refine lv_iconst (v := 3) hM.1 hM.2.1 dL_law_970 ic_3 ?_
  refine lv_iadd hM.1 hM.2.1 dL_law_971 ?_
  refine va_sld hM.1 hM.2.1 hX hbl (Nat.not_le.mpr hbl) hw.2.2.2.1 (sc_in (d := 3) rfl (by omega) hL) dL_law_972 ?_
  have hw := wd_swap hw
  refine y_callVI (rest := [.int v]) hM hw (ct_X12_calm l oR (xs (nI j + 1).toNatClampNeg) (xs (nI j + 2).toNatClampNeg) (xs (nI j + 3).toNatClampNeg)) [.int (xs (nI j + 1).toNatClampNeg), .int (xs (nI j + 2).toNatClampNeg), .int (xs (nI j + 3).toNatClampNeg)] (okX12.o oR) rfl rfl rfl (gi_V ml_L_120 im_X12_calm sl_X12_calm in_X12 kc_X12_calm) hd_X12_calm rfl ⟨Nat.le_of_ble_eq_true rfl, Nat.le_of_ble_eq_true rfl⟩ rfl (Nat.le_of_ble_eq_true rfl) hl.1 hF2 hcs dL_law_973 (fun H locs hw => ?_)
  have hw := wd_swap hw
  refine lv_icmp_eq (tgt := 1235) hM.1 hM.2.1 dL_law_976 (by decide) (fun _ => ?_) (fun q => absurd rfl q)
  exact kk _ _ H locs hJ hw
set_option maxHeartbeats 4000000 in
set_option maxRecDepth 100000 in
theorem law_c25 {p : Program} {l : Launch} {e : Env} {s : State} {m : MethodId} {below : List Frame} {meth : Method} {c : Code} {Q : State → Prop} {D : va_G} {G : GG} {adC adR : Nat → Nat} {layC layR : List KK} {b L j : Nat} {xs : Nat → Int32} {hc hr : PH} {H : Heap} {locs : List Loc} {ls : Array Slot} {cells slots : Nat} {J : PH → PH → Prop} (hM : CallFix p m c cL_law 4 s #[Value.ref b] lw_g RL) (hX : va_X b L xs s s.heap) (hbl : b < s.heap.size) (hcs : cells ≤ room_1.cells ∧ slots ≤ room_1.slots) (oC : okX11 layC) (oR : okX12 layR) (hL : L ≤ 3072) (hj : j + 5 < L) (hl : lv_has ls 4 [(0, .ref b), (1, .ref (adC 0)), (2, .ref (adR 0)), (3, .int (nI j))]) (hw : Wd D G (fun q : Nat => s.heap.size ≤ q) s.heap adC layC (encA adR G hr 0 layR) hc s H locs) (hop : ∃ (v : Int32) (hc' : PH) (hr' : PH), c_X11_say (xs (nI j + 1).toNatClampNeg) (xs (nI j + 2).toNatClampNeg) (xs (nI j + 3).toNatClampNeg) (xs (nI j + 4).toNatClampNeg) hc = some (v, hc') ∧ c_X12_say (xs (nI j + 1).toNatClampNeg) (xs (nI j + 2).toNatClampNeg) (xs (nI j + 3).toNatClampNeg) (xs (nI j + 4).toNatClampNeg) hr = some (v, hr') ∧ J hc' hr') (kk : ∀ (hc' hr' : PH) (H : Heap) (locs : List Loc), J hc' hr' → Wd D G (fun q : Nat => s.heap.size ≤ q) s.heap adC layC (encA adR G hr' 0 layR) hc' s H locs → W p l e room_1 s m #[Value.ref b] below meth c H locs cells slots Q (F0 m 1235 ls [])) : W p l e room_1 s m #[Value.ref b] below meth c H locs cells slots Q (F0 m 981 ls []) := by
  obtain ⟨v, hc', hr', hF1, hF2, hJ⟩ := hop
  refine lv_aload_n hM.1 hM.2.1 dL_law_981 rfl (lv_at hl 1 rfl) ?_
  refine lv_aload_n hM.1 hM.2.1 dL_law_982 rfl (lv_at hl 0 rfl) ?_
  refine lv_iload_n hM.1 hM.2.1 dL_law_983 rfl (lv_at hl 3 rfl) ?_
  refine lv_iconst (v := 1) hM.1 hM.2.1 dL_law_984 ic_1 ?_
  refine lv_iadd hM.1 hM.2.1 dL_law_985 ?_
  refine va_sld hM.1 hM.2.1 hX hbl (Nat.not_le.mpr hbl) hw.2.2.2.1 (sc_in (d := 1) rfl (by omega) hL) dL_law_986 ?_
  refine lv_aload_n hM.1 hM.2.1 dL_law_987 rfl (lv_at hl 0 rfl) ?_
  refine lv_iload_n hM.1 hM.2.1 dL_law_988 rfl (lv_at hl 3 rfl) ?_
  refine lv_iconst (v := 2) hM.1 hM.2.1 dL_law_989 ic_2 ?_
  refine lv_iadd hM.1 hM.2.1 dL_law_990 ?_
  refine va_sld hM.1 hM.2.1 hX hbl (Nat.not_le.mpr hbl) hw.2.2.2.1 (sc_in (d := 2) rfl (by omega) hL) dL_law_991 ?_
  refine lv_aload_n hM.1 hM.2.1 dL_law_992 rfl (lv_at hl 0 rfl) ?_
  refine lv_iload_n hM.1 hM.2.1 dL_law_993 rfl (lv_at hl 3 rfl) ?_
  refine lv_iconst (v := 3) hM.1 hM.2.1 dL_law_994 ic_3 ?_
  refine lv_iadd hM.1 hM.2.1 dL_law_995 ?_
  refine va_sld hM.1 hM.2.1 hX hbl (Nat.not_le.mpr hbl) hw.2.2.2.1 (sc_in (d := 3) rfl (by omega) hL) dL_law_996 ?_
  refine lv_aload_n hM.1 hM.2.1 dL_law_997 rfl (lv_at hl 0 rfl) ?_
  refine lv_iload_n hM.1 hM.2.1 dL_law_998 rfl (lv_at hl 3 rfl) ?_
  refine lv_iconst (v := 4) hM.1 hM.2.1 dL_law_999 ic_4 ?_
  refine lv_iadd hM.1 hM.2.1 dL_law_1000 ?_
  refine va_sld hM.1 hM.2.1 hX hbl (Nat.not_le.mpr hbl) hw.2.2.2.1 (sc_in (d := 4) rfl (by omega) hL) dL_law_1001 ?_
  refine y_callVI (rest := []) hM hw (ct_X11_say l oC (xs (nI j + 1).toNatClampNeg) (xs (nI j + 2).toNatClampNeg) (xs (nI j + 3).toNatClampNeg) (xs (nI j + 4).toNatClampNeg)) [.int (xs (nI j + 1).toNatClampNeg), .int (xs (nI j + 2).toNatClampNeg), .int (xs (nI j + 3).toNatClampNeg), .int (xs (nI j + 4).toNatClampNeg)] (okX11.o oC) rfl rfl rfl (gi_V ml_L_121 im_X11_say sl_X11_say in_X11 kc_X11_say) hd_X11_say rfl ⟨Nat.le_of_ble_eq_true rfl, Nat.le_of_ble_eq_true rfl⟩ rfl (Nat.le_of_ble_eq_true rfl) hl.1 hF1 hcs dL_law_1002 (fun H locs hw => ?_)
  refine lv_aload_n hM.1 hM.2.1 dL_law_1005 rfl (lv_at hl 2 rfl) ?_
  refine lv_aload_n hM.1 hM.2.1 dL_law_1006 rfl (lv_at hl 0 rfl) ?_
  refine lv_iload_n hM.1 hM.2.1 dL_law_1007 rfl (lv_at hl 3 rfl) ?_
  refine lv_iconst (v := 1) hM.1 hM.2.1 dL_law_1008 ic_1 ?_
  refine lv_iadd hM.1 hM.2.1 dL_law_1009 ?_
  refine va_sld hM.1 hM.2.1 hX hbl (Nat.not_le.mpr hbl) hw.2.2.2.1 (sc_in (d := 1) rfl (by omega) hL) dL_law_1010 ?_
  refine lv_aload_n hM.1 hM.2.1 dL_law_1011 rfl (lv_at hl 0 rfl) ?_
  refine lv_iload_n hM.1 hM.2.1 dL_law_1012 rfl (lv_at hl 3 rfl) ?_
  refine lv_iconst (v := 2) hM.1 hM.2.1 dL_law_1013 ic_2 ?_
  refine lv_iadd hM.1 hM.2.1 dL_law_1014 ?_
  refine va_sld hM.1 hM.2.1 hX hbl (Nat.not_le.mpr hbl) hw.2.2.2.1 (sc_in (d := 2) rfl (by omega) hL) dL_law_1015 ?_
  refine lv_aload_n hM.1 hM.2.1 dL_law_1016 rfl (lv_at hl 0 rfl) ?_
  refine lv_iload_n hM.1 hM.2.1 dL_law_1017 rfl (lv_at hl 3 rfl) ?_
  refine lv_iconst (v := 3) hM.1 hM.2.1 dL_law_1018 ic_3 ?_
  refine lv_iadd hM.1 hM.2.1 dL_law_1019 ?_
  refine va_sld hM.1 hM.2.1 hX hbl (Nat.not_le.mpr hbl) hw.2.2.2.1 (sc_in (d := 3) rfl (by omega) hL) dL_law_1020 ?_
  refine lv_aload_n hM.1 hM.2.1 dL_law_1021 rfl (lv_at hl 0 rfl) ?_
  refine lv_iload_n hM.1 hM.2.1 dL_law_1022 rfl (lv_at hl 3 rfl) ?_
  refine lv_iconst (v := 4) hM.1 hM.2.1 dL_law_1023 ic_4 ?_
  refine lv_iadd hM.1 hM.2.1 dL_law_1024 ?_
  refine va_sld hM.1 hM.2.1 hX hbl (Nat.not_le.mpr hbl) hw.2.2.2.1 (sc_in (d := 4) rfl (by omega) hL) dL_law_1025 ?_
  have hw := wd_swap hw
  refine y_callVI (rest := [.int v]) hM hw (ct_X12_say l oR (xs (nI j + 1).toNatClampNeg) (xs (nI j + 2).toNatClampNeg) (xs (nI j + 3).toNatClampNeg) (xs (nI j + 4).toNatClampNeg)) [.int (xs (nI j + 1).toNatClampNeg), .int (xs (nI j + 2).toNatClampNeg), .int (xs (nI j + 3).toNatClampNeg), .int (xs (nI j + 4).toNatClampNeg)] (okX12.o oR) rfl rfl rfl (gi_V ml_L_125 im_X12_say sl_X12_say in_X12 kc_X12_say) hd_X12_say rfl ⟨Nat.le_of_ble_eq_true rfl, Nat.le_of_ble_eq_true rfl⟩ rfl (Nat.le_of_ble_eq_true rfl) hl.1 hF2 hcs dL_law_1026 (fun H locs hw => ?_)
  have hw := wd_swap hw
  refine lv_icmp_eq (tgt := 1235) hM.1 hM.2.1 dL_law_1029 (by decide) (fun _ => ?_) (fun q => absurd rfl q)
  exact kk _ _ H locs hJ hw
set_option maxHeartbeats 4000000 in
set_option maxRecDepth 100000 in
theorem law_c26 {p : Program} {l : Launch} {e : Env} {s : State} {m : MethodId} {below : List Frame} {meth : Method} {c : Code} {Q : State → Prop} {D : va_G} {G : GG} {adC adR : Nat → Nat} {layC layR : List KK} {b L j : Nat} {xs : Nat → Int32} {hc hr : PH} {H : Heap} {locs : List Loc} {ls : Array Slot} {cells slots : Nat} {J : PH → PH → Prop} (hM : CallFix p m c cL_law 4 s #[Value.ref b] lw_g RL) (hX : va_X b L xs s s.heap) (hbl : b < s.heap.size) (hcs : cells ≤ room_1.cells ∧ slots ≤ room_1.slots) (oC : okX11 layC) (oR : okX12 layR) (hL : L ≤ 3072) (hj : j + 5 < L) (hl : lv_has ls 4 [(0, .ref b), (1, .ref (adC 0)), (2, .ref (adR 0)), (3, .int (nI j))]) (hw : Wd D G (fun q : Nat => s.heap.size ≤ q) s.heap adC layC (encA adR G hr 0 layR) hc s H locs) (hop : ∃ (v : Int32), c_X11_span (xs (nI j + 1).toNatClampNeg) (xs (nI j + 2).toNatClampNeg) (xs (nI j + 3).toNatClampNeg) hc = some v ∧ c_X12_span (xs (nI j + 1).toNatClampNeg) (xs (nI j + 2).toNatClampNeg) (xs (nI j + 3).toNatClampNeg) hr = some v ∧ J hc hr) (kk : ∀ (hc' hr' : PH) (H : Heap) (locs : List Loc), J hc' hr' → Wd D G (fun q : Nat => s.heap.size ≤ q) s.heap adC layC (encA adR G hr' 0 layR) hc' s H locs → W p l e room_1 s m #[Value.ref b] below meth c H locs cells slots Q (F0 m 1235 ls [])) : W p l e room_1 s m #[Value.ref b] below meth c H locs cells slots Q (F0 m 1034 ls []) := by
  obtain ⟨v, hF1, hF2, hJ⟩ := hop
  refine lv_aload_n hM.1 hM.2.1 dL_law_1034 rfl (lv_at hl 1 rfl) ?_
  refine lv_aload_n hM.1 hM.2.1 dL_law_1035 rfl (lv_at hl 0 rfl) ?_
  refine lv_iload_n hM.1 hM.2.1 dL_law_1036 rfl (lv_at hl 3 rfl) ?_
  refine lv_iconst (v := 1) hM.1 hM.2.1 dL_law_1037 ic_1 ?_
  refine lv_iadd hM.1 hM.2.1 dL_law_1038 ?_
  refine va_sld hM.1 hM.2.1 hX hbl (Nat.not_le.mpr hbl) hw.2.2.2.1 (sc_in (d := 1) rfl (by omega) hL) dL_law_1039 ?_
  refine lv_aload_n hM.1 hM.2.1 dL_law_1040 rfl (lv_at hl 0 rfl) ?_
  refine lv_iload_n hM.1 hM.2.1 dL_law_1041 rfl (lv_at hl 3 rfl) ?_
  refine lv_iconst (v := 2) hM.1 hM.2.1 dL_law_1042 ic_2 ?_
  refine lv_iadd hM.1 hM.2.1 dL_law_1043 ?_
  refine va_sld hM.1 hM.2.1 hX hbl (Nat.not_le.mpr hbl) hw.2.2.2.1 (sc_in (d := 2) rfl (by omega) hL) dL_law_1044 ?_
  refine lv_aload_n hM.1 hM.2.1 dL_law_1045 rfl (lv_at hl 0 rfl) ?_
  refine lv_iload_n hM.1 hM.2.1 dL_law_1046 rfl (lv_at hl 3 rfl) ?_
  refine lv_iconst (v := 3) hM.1 hM.2.1 dL_law_1047 ic_3 ?_
  refine lv_iadd hM.1 hM.2.1 dL_law_1048 ?_
  refine va_sld hM.1 hM.2.1 hX hbl (Nat.not_le.mpr hbl) hw.2.2.2.1 (sc_in (d := 3) rfl (by omega) hL) dL_law_1049 ?_
  refine y_callVI (rest := []) hM hw (ct_X11_span l oC (xs (nI j + 1).toNatClampNeg) (xs (nI j + 2).toNatClampNeg) (xs (nI j + 3).toNatClampNeg)) [.int (xs (nI j + 1).toNatClampNeg), .int (xs (nI j + 2).toNatClampNeg), .int (xs (nI j + 3).toNatClampNeg)] (okX11.o oC) rfl rfl rfl (gi_V ml_L_126 im_X11_span sl_X11_span in_X11 kc_X11_span) hd_X11_span rfl ⟨Nat.le_of_ble_eq_true rfl, Nat.le_of_ble_eq_true rfl⟩ rfl (Nat.le_of_ble_eq_true rfl) hl.1 (rd_mk hF1) hcs dL_law_1050 (fun H locs hw => ?_)
  refine lv_aload_n hM.1 hM.2.1 dL_law_1053 rfl (lv_at hl 2 rfl) ?_
  refine lv_aload_n hM.1 hM.2.1 dL_law_1054 rfl (lv_at hl 0 rfl) ?_
  refine lv_iload_n hM.1 hM.2.1 dL_law_1055 rfl (lv_at hl 3 rfl) ?_
  refine lv_iconst (v := 1) hM.1 hM.2.1 dL_law_1056 ic_1 ?_
  refine lv_iadd hM.1 hM.2.1 dL_law_1057 ?_
  refine va_sld hM.1 hM.2.1 hX hbl (Nat.not_le.mpr hbl) hw.2.2.2.1 (sc_in (d := 1) rfl (by omega) hL) dL_law_1058 ?_
  refine lv_aload_n hM.1 hM.2.1 dL_law_1059 rfl (lv_at hl 0 rfl) ?_
  refine lv_iload_n hM.1 hM.2.1 dL_law_1060 rfl (lv_at hl 3 rfl) ?_
  refine lv_iconst (v := 2) hM.1 hM.2.1 dL_law_1061 ic_2 ?_
  refine lv_iadd hM.1 hM.2.1 dL_law_1062 ?_
  refine va_sld hM.1 hM.2.1 hX hbl (Nat.not_le.mpr hbl) hw.2.2.2.1 (sc_in (d := 2) rfl (by omega) hL) dL_law_1063 ?_
  refine lv_aload_n hM.1 hM.2.1 dL_law_1064 rfl (lv_at hl 0 rfl) ?_
  refine lv_iload_n hM.1 hM.2.1 dL_law_1065 rfl (lv_at hl 3 rfl) ?_
  refine lv_iconst (v := 3) hM.1 hM.2.1 dL_law_1066 ic_3 ?_
  refine lv_iadd hM.1 hM.2.1 dL_law_1067 ?_
  refine va_sld hM.1 hM.2.1 hX hbl (Nat.not_le.mpr hbl) hw.2.2.2.1 (sc_in (d := 3) rfl (by omega) hL) dL_law_1068 ?_
  have hw := wd_swap hw
  refine y_callVI (rest := [.int v]) hM hw (ct_X12_span l oR (xs (nI j + 1).toNatClampNeg) (xs (nI j + 2).toNatClampNeg) (xs (nI j + 3).toNatClampNeg)) [.int (xs (nI j + 1).toNatClampNeg), .int (xs (nI j + 2).toNatClampNeg), .int (xs (nI j + 3).toNatClampNeg)] (okX12.o oR) rfl rfl rfl (gi_V ml_L_129 im_X12_span sl_X12_span in_X12 kc_X12_span) hd_X12_span rfl ⟨Nat.le_of_ble_eq_true rfl, Nat.le_of_ble_eq_true rfl⟩ rfl (Nat.le_of_ble_eq_true rfl) hl.1 (rd_mk hF2) hcs dL_law_1069 (fun H locs hw => ?_)
  have hw := wd_swap hw
  refine lv_icmp_eq (tgt := 1235) hM.1 hM.2.1 dL_law_1072 (by decide) (fun _ => ?_) (fun q => absurd rfl q)
  exact kk _ _ H locs hJ hw
set_option maxHeartbeats 4000000 in
set_option maxRecDepth 100000 in
theorem law_c27 {p : Program} {l : Launch} {e : Env} {s : State} {m : MethodId} {below : List Frame} {meth : Method} {c : Code} {Q : State → Prop} {D : va_G} {G : GG} {adC adR : Nat → Nat} {layC layR : List KK} {b L j : Nat} {xs : Nat → Int32} {hc hr : PH} {H : Heap} {locs : List Loc} {ls : Array Slot} {cells slots : Nat} {J : PH → PH → Prop} (hM : CallFix p m c cL_law 4 s #[Value.ref b] lw_g RL) (hX : va_X b L xs s s.heap) (hbl : b < s.heap.size) (hcs : cells ≤ room_1.cells ∧ slots ≤ room_1.slots) (oC : okX11 layC) (oR : okX12 layR) (hL : L ≤ 3072) (hj : j + 5 < L) (hl : lv_has ls 4 [(0, .ref b), (1, .ref (adC 0)), (2, .ref (adR 0)), (3, .int (nI j))]) (hw : Wd D G (fun q : Nat => s.heap.size ≤ q) s.heap adC layC (encA adR G hr 0 layR) hc s H locs) (hop : ∃ (v : Int32) (hc' : PH) (hr' : PH), c_X11_know (xs (nI j + 1).toNatClampNeg) (xs (nI j + 2).toNatClampNeg) (xs (nI j + 3).toNatClampNeg) hc = some (v, hc') ∧ c_X12_know (xs (nI j + 1).toNatClampNeg) (xs (nI j + 2).toNatClampNeg) (xs (nI j + 3).toNatClampNeg) hr = some (v, hr') ∧ J hc' hr') (kk : ∀ (hc' hr' : PH) (H : Heap) (locs : List Loc), J hc' hr' → Wd D G (fun q : Nat => s.heap.size ≤ q) s.heap adC layC (encA adR G hr' 0 layR) hc' s H locs → W p l e room_1 s m #[Value.ref b] below meth c H locs cells slots Q (F0 m 1235 ls [])) : W p l e room_1 s m #[Value.ref b] below meth c H locs cells slots Q (F0 m 1077 ls []) := by
  obtain ⟨v, hc', hr', hF1, hF2, hJ⟩ := hop
  refine lv_aload_n hM.1 hM.2.1 dL_law_1077 rfl (lv_at hl 1 rfl) ?_
  refine lv_aload_n hM.1 hM.2.1 dL_law_1078 rfl (lv_at hl 0 rfl) ?_
  refine lv_iload_n hM.1 hM.2.1 dL_law_1079 rfl (lv_at hl 3 rfl) ?_
  refine lv_iconst (v := 1) hM.1 hM.2.1 dL_law_1080 ic_1 ?_
  refine lv_iadd hM.1 hM.2.1 dL_law_1081 ?_
  refine va_sld hM.1 hM.2.1 hX hbl (Nat.not_le.mpr hbl) hw.2.2.2.1 (sc_in (d := 1) rfl (by omega) hL) dL_law_1082 ?_
  refine lv_aload_n hM.1 hM.2.1 dL_law_1083 rfl (lv_at hl 0 rfl) ?_
  refine lv_iload_n hM.1 hM.2.1 dL_law_1084 rfl (lv_at hl 3 rfl) ?_
  refine lv_iconst (v := 2) hM.1 hM.2.1 dL_law_1085 ic_2 ?_
  refine lv_iadd hM.1 hM.2.1 dL_law_1086 ?_
  refine va_sld hM.1 hM.2.1 hX hbl (Nat.not_le.mpr hbl) hw.2.2.2.1 (sc_in (d := 2) rfl (by omega) hL) dL_law_1087 ?_
  refine lv_aload_n hM.1 hM.2.1 dL_law_1088 rfl (lv_at hl 0 rfl) ?_
  refine lv_iload_n hM.1 hM.2.1 dL_law_1089 rfl (lv_at hl 3 rfl) ?_
  refine lv_iconst (v := 3) hM.1 hM.2.1 dL_law_1090 ic_3 ?_
  refine lv_iadd hM.1 hM.2.1 dL_law_1091 ?_
  refine va_sld hM.1 hM.2.1 hX hbl (Nat.not_le.mpr hbl) hw.2.2.2.1 (sc_in (d := 3) rfl (by omega) hL) dL_law_1092 ?_
  refine y_callVI (rest := []) hM hw (ct_X11_know l oC (xs (nI j + 1).toNatClampNeg) (xs (nI j + 2).toNatClampNeg) (xs (nI j + 3).toNatClampNeg)) [.int (xs (nI j + 1).toNatClampNeg), .int (xs (nI j + 2).toNatClampNeg), .int (xs (nI j + 3).toNatClampNeg)] (okX11.o oC) rfl rfl rfl (gi_V ml_L_130 im_X11_know sl_X11_know in_X11 kc_X11_know) hd_X11_know rfl ⟨Nat.le_of_ble_eq_true rfl, Nat.le_of_ble_eq_true rfl⟩ rfl (Nat.le_of_ble_eq_true rfl) hl.1 hF1 hcs dL_law_1093 (fun H locs hw => ?_)
  refine lv_aload_n hM.1 hM.2.1 dL_law_1096 rfl (lv_at hl 2 rfl) ?_
  refine lv_aload_n hM.1 hM.2.1 dL_law_1097 rfl (lv_at hl 0 rfl) ?_
  refine lv_iload_n hM.1 hM.2.1 dL_law_1098 rfl (lv_at hl 3 rfl) ?_
  refine lv_iconst (v := 1) hM.1 hM.2.1 dL_law_1099 ic_1 ?_
  refine lv_iadd hM.1 hM.2.1 dL_law_1100 ?_
  refine va_sld hM.1 hM.2.1 hX hbl (Nat.not_le.mpr hbl) hw.2.2.2.1 (sc_in (d := 1) rfl (by omega) hL) dL_law_1101 ?_
  refine lv_aload_n hM.1 hM.2.1 dL_law_1102 rfl (lv_at hl 0 rfl) ?_
  refine lv_iload_n hM.1 hM.2.1 dL_law_1103 rfl (lv_at hl 3 rfl) ?_
  refine lv_iconst (v := 2) hM.1 hM.2.1 dL_law_1104 ic_2 ?_
  refine lv_iadd hM.1 hM.2.1 dL_law_1105 ?_
  refine va_sld hM.1 hM.2.1 hX hbl (Nat.not_le.mpr hbl) hw.2.2.2.1 (sc_in (d := 2) rfl (by omega) hL) dL_law_1106 ?_
  refine lv_aload_n hM.1 hM.2.1 dL_law_1107 rfl (lv_at hl 0 rfl) ?_
  refine lv_iload_n hM.1 hM.2.1 dL_law_1108 rfl (lv_at hl 3 rfl) ?_
  refine lv_iconst (v := 3) hM.1 hM.2.1 dL_law_1109 ic_3 ?_
  refine lv_iadd hM.1 hM.2.1 dL_law_1110 ?_
  refine va_sld hM.1 hM.2.1 hX hbl (Nat.not_le.mpr hbl) hw.2.2.2.1 (sc_in (d := 3) rfl (by omega) hL) dL_law_1111 ?_
  have hw := wd_swap hw
  refine y_callVI (rest := [.int v]) hM hw (ct_X12_know l oR (xs (nI j + 1).toNatClampNeg) (xs (nI j + 2).toNatClampNeg) (xs (nI j + 3).toNatClampNeg)) [.int (xs (nI j + 1).toNatClampNeg), .int (xs (nI j + 2).toNatClampNeg), .int (xs (nI j + 3).toNatClampNeg)] (okX12.o oR) rfl rfl rfl (gi_V ml_L_133 im_X12_know sl_X12_know in_X12 kc_X12_know) hd_X12_know rfl ⟨Nat.le_of_ble_eq_true rfl, Nat.le_of_ble_eq_true rfl⟩ rfl (Nat.le_of_ble_eq_true rfl) hl.1 hF2 hcs dL_law_1112 (fun H locs hw => ?_)
  have hw := wd_swap hw
  refine lv_icmp_eq (tgt := 1235) hM.1 hM.2.1 dL_law_1115 (by decide) (fun _ => ?_) (fun q => absurd rfl q)
  exact kk _ _ H locs hJ hw
set_option maxHeartbeats 4000000 in
set_option maxRecDepth 100000 in
theorem law_c28 {p : Program} {l : Launch} {e : Env} {s : State} {m : MethodId} {below : List Frame} {meth : Method} {c : Code} {Q : State → Prop} {D : va_G} {G : GG} {adC adR : Nat → Nat} {layC layR : List KK} {b L j : Nat} {xs : Nat → Int32} {hc hr : PH} {H : Heap} {locs : List Loc} {ls : Array Slot} {cells slots : Nat} {J : PH → PH → Prop} (hM : CallFix p m c cL_law 4 s #[Value.ref b] lw_g RL) (hX : va_X b L xs s s.heap) (hbl : b < s.heap.size) (hcs : cells ≤ room_1.cells ∧ slots ≤ room_1.slots) (oC : okX11 layC) (oR : okX12 layR) (hL : L ≤ 3072) (hj : j + 5 < L) (hl : lv_has ls 4 [(0, .ref b), (1, .ref (adC 0)), (2, .ref (adR 0)), (3, .int (nI j))]) (hw : Wd D G (fun q : Nat => s.heap.size ≤ q) s.heap adC layC (encA adR G hr 0 layR) hc s H locs) (hop : ∃ (v : Int32) (hc' : PH) (hr' : PH), c_X11_fits (xs (nI j + 1).toNatClampNeg) (xs (nI j + 2).toNatClampNeg) hc = some (v, hc') ∧ c_X12_fits (xs (nI j + 1).toNatClampNeg) (xs (nI j + 2).toNatClampNeg) hr = some (v, hr') ∧ J hc' hr') (kk : ∀ (hc' hr' : PH) (H : Heap) (locs : List Loc), J hc' hr' → Wd D G (fun q : Nat => s.heap.size ≤ q) s.heap adC layC (encA adR G hr' 0 layR) hc' s H locs → W p l e room_1 s m #[Value.ref b] below meth c H locs cells slots Q (F0 m 1235 ls [])) : W p l e room_1 s m #[Value.ref b] below meth c H locs cells slots Q (F0 m 1120 ls []) := by
  obtain ⟨v, hc', hr', hF1, hF2, hJ⟩ := hop
  refine lv_aload_n hM.1 hM.2.1 dL_law_1120 rfl (lv_at hl 1 rfl) ?_
  refine lv_aload_n hM.1 hM.2.1 dL_law_1121 rfl (lv_at hl 0 rfl) ?_
  refine lv_iload_n hM.1 hM.2.1 dL_law_1122 rfl (lv_at hl 3 rfl) ?_
  refine lv_iconst (v := 1) hM.1 hM.2.1 dL_law_1123 ic_1 ?_
  refine lv_iadd hM.1 hM.2.1 dL_law_1124 ?_
  refine va_sld hM.1 hM.2.1 hX hbl (Nat.not_le.mpr hbl) hw.2.2.2.1 (sc_in (d := 1) rfl (by omega) hL) dL_law_1125 ?_
  refine lv_aload_n hM.1 hM.2.1 dL_law_1126 rfl (lv_at hl 0 rfl) ?_
  refine lv_iload_n hM.1 hM.2.1 dL_law_1127 rfl (lv_at hl 3 rfl) ?_
  refine lv_iconst (v := 2) hM.1 hM.2.1 dL_law_1128 ic_2 ?_
  refine lv_iadd hM.1 hM.2.1 dL_law_1129 ?_
  refine va_sld hM.1 hM.2.1 hX hbl (Nat.not_le.mpr hbl) hw.2.2.2.1 (sc_in (d := 2) rfl (by omega) hL) dL_law_1130 ?_
  refine y_callVI (rest := []) hM hw (ct_X11_fits l oC (xs (nI j + 1).toNatClampNeg) (xs (nI j + 2).toNatClampNeg)) [.int (xs (nI j + 1).toNatClampNeg), .int (xs (nI j + 2).toNatClampNeg)] (okX11.o oC) rfl rfl rfl (gi_V ml_L_134 im_X11_fits sl_X11_fits in_X11 kc_X11_fits) hd_X11_fits rfl ⟨Nat.le_of_ble_eq_true rfl, Nat.le_of_ble_eq_true rfl⟩ rfl (Nat.le_of_ble_eq_true rfl) hl.1 hF1 hcs dL_law_1131 (fun H locs hw => ?_)
  refine lv_aload_n hM.1 hM.2.1 dL_law_1134 rfl (lv_at hl 2 rfl) ?_
  refine lv_aload_n hM.1 hM.2.1 dL_law_1135 rfl (lv_at hl 0 rfl) ?_
  refine lv_iload_n hM.1 hM.2.1 dL_law_1136 rfl (lv_at hl 3 rfl) ?_
  refine lv_iconst (v := 1) hM.1 hM.2.1 dL_law_1137 ic_1 ?_
  refine lv_iadd hM.1 hM.2.1 dL_law_1138 ?_
  refine va_sld hM.1 hM.2.1 hX hbl (Nat.not_le.mpr hbl) hw.2.2.2.1 (sc_in (d := 1) rfl (by omega) hL) dL_law_1139 ?_
  refine lv_aload_n hM.1 hM.2.1 dL_law_1140 rfl (lv_at hl 0 rfl) ?_
  refine lv_iload_n hM.1 hM.2.1 dL_law_1141 rfl (lv_at hl 3 rfl) ?_
  refine lv_iconst (v := 2) hM.1 hM.2.1 dL_law_1142 ic_2 ?_
  refine lv_iadd hM.1 hM.2.1 dL_law_1143 ?_
  refine va_sld hM.1 hM.2.1 hX hbl (Nat.not_le.mpr hbl) hw.2.2.2.1 (sc_in (d := 2) rfl (by omega) hL) dL_law_1144 ?_
  have hw := wd_swap hw
  refine y_callVI (rest := [.int v]) hM hw (ct_X12_fits l oR (xs (nI j + 1).toNatClampNeg) (xs (nI j + 2).toNatClampNeg)) [.int (xs (nI j + 1).toNatClampNeg), .int (xs (nI j + 2).toNatClampNeg)] (okX12.o oR) rfl rfl rfl (gi_V ml_L_137 im_X12_fits sl_X12_fits in_X12 kc_X12_fits) hd_X12_fits rfl ⟨Nat.le_of_ble_eq_true rfl, Nat.le_of_ble_eq_true rfl⟩ rfl (Nat.le_of_ble_eq_true rfl) hl.1 hF2 hcs dL_law_1145 (fun H locs hw => ?_)
  have hw := wd_swap hw
  refine lv_icmp_eq (tgt := 1235) hM.1 hM.2.1 dL_law_1148 (by decide) (fun _ => ?_) (fun q => absurd rfl q)
  exact kk _ _ H locs hJ hw
set_option maxHeartbeats 4000000 in
set_option maxRecDepth 100000 in
theorem law_c29 {p : Program} {l : Launch} {e : Env} {s : State} {m : MethodId} {below : List Frame} {meth : Method} {c : Code} {Q : State → Prop} {D : va_G} {G : GG} {adC adR : Nat → Nat} {layC layR : List KK} {b L j : Nat} {xs : Nat → Int32} {hc hr : PH} {H : Heap} {locs : List Loc} {ls : Array Slot} {cells slots : Nat} {J : PH → PH → Prop} (hM : CallFix p m c cL_law 4 s #[Value.ref b] lw_g RL) (hX : va_X b L xs s s.heap) (hbl : b < s.heap.size) (hcs : cells ≤ room_1.cells ∧ slots ≤ room_1.slots) (oC : okX11 layC) (oR : okX12 layR) (hL : L ≤ 3072) (hj : j + 5 < L) (hl : lv_has ls 4 [(0, .ref b), (1, .ref (adC 0)), (2, .ref (adR 0)), (3, .int (nI j))]) (hw : Wd D G (fun q : Nat => s.heap.size ≤ q) s.heap adC layC (encA adR G hr 0 layR) hc s H locs) (hop : ∃ (v : Int32) (hc' : PH) (hr' : PH), c_X11_forget hc = some (v, hc') ∧ c_X12_forget hr = some (v, hr') ∧ J hc' hr') (kk : ∀ (hc' hr' : PH) (H : Heap) (locs : List Loc), J hc' hr' → Wd D G (fun q : Nat => s.heap.size ≤ q) s.heap adC layC (encA adR G hr' 0 layR) hc' s H locs → W p l e room_1 s m #[Value.ref b] below meth c H locs cells slots Q (F0 m 1235 ls [])) : W p l e room_1 s m #[Value.ref b] below meth c H locs cells slots Q (F0 m 1153 ls []) := by
  obtain ⟨v, hc', hr', hF1, hF2, hJ⟩ := hop
  refine lv_aload_n hM.1 hM.2.1 dL_law_1153 rfl (lv_at hl 1 rfl) ?_
  refine y_callVI (rest := []) hM hw (ct_X11_forget l oC) [] (okX11.o oC) rfl rfl rfl (gi_V ml_L_138 im_X11_forget sl_X11_forget in_X11 kc_X11_forget) hd_X11_forget rfl ⟨Nat.le_of_ble_eq_true rfl, Nat.le_of_ble_eq_true rfl⟩ rfl (Nat.le_of_ble_eq_true rfl) hl.1 hF1 hcs dL_law_1154 (fun H locs hw => ?_)
  refine lv_aload_n hM.1 hM.2.1 dL_law_1157 rfl (lv_at hl 2 rfl) ?_
  have hw := wd_swap hw
  refine y_callVI (rest := [.int v]) hM hw (ct_X12_forget l oR) [] (okX12.o oR) rfl rfl rfl (gi_V ml_L_141 im_X12_forget sl_X12_forget in_X12 kc_X12_forget) hd_X12_forget rfl ⟨Nat.le_of_ble_eq_true rfl, Nat.le_of_ble_eq_true rfl⟩ rfl (Nat.le_of_ble_eq_true rfl) hl.1 hF2 hcs dL_law_1158 (fun H locs hw => ?_)
  have hw := wd_swap hw
  refine lv_icmp_eq (tgt := 1235) hM.1 hM.2.1 dL_law_1161 (by decide) (fun _ => ?_) (fun q => absurd rfl q)
  exact kk _ _ H locs hJ hw
set_option maxHeartbeats 4000000 in
set_option maxRecDepth 100000 in
theorem law_c30 {p : Program} {l : Launch} {e : Env} {s : State} {m : MethodId} {below : List Frame} {meth : Method} {c : Code} {Q : State → Prop} {D : va_G} {G : GG} {adC adR : Nat → Nat} {layC layR : List KK} {b L j : Nat} {xs : Nat → Int32} {hc hr : PH} {H : Heap} {locs : List Loc} {ls : Array Slot} {cells slots : Nat} {J : PH → PH → Prop} (hM : CallFix p m c cL_law 4 s #[Value.ref b] lw_g RL) (hX : va_X b L xs s s.heap) (hbl : b < s.heap.size) (hcs : cells ≤ room_1.cells ∧ slots ≤ room_1.slots) (oC : okX11 layC) (oR : okX12 layR) (hL : L ≤ 3072) (hj : j + 5 < L) (hl : lv_has ls 4 [(0, .ref b), (1, .ref (adC 0)), (2, .ref (adR 0)), (3, .int (nI j))]) (hw : Wd D G (fun q : Nat => s.heap.size ≤ q) s.heap adC layC (encA adR G hr 0 layR) hc s H locs) (hop : ∃ (v : Int32) (hc' : PH) (hr' : PH), c_X11_hold (xs (nI j + 1).toNatClampNeg) hc = some (v, hc') ∧ c_X12_hold (xs (nI j + 1).toNatClampNeg) hr = some (v, hr') ∧ J hc' hr') (kk : ∀ (hc' hr' : PH) (H : Heap) (locs : List Loc), J hc' hr' → Wd D G (fun q : Nat => s.heap.size ≤ q) s.heap adC layC (encA adR G hr' 0 layR) hc' s H locs → W p l e room_1 s m #[Value.ref b] below meth c H locs cells slots Q (F0 m 1235 ls [])) : W p l e room_1 s m #[Value.ref b] below meth c H locs cells slots Q (F0 m 1166 ls []) := by
  obtain ⟨v, hc', hr', hF1, hF2, hJ⟩ := hop
  refine lv_aload_n hM.1 hM.2.1 dL_law_1166 rfl (lv_at hl 1 rfl) ?_
  refine lv_aload_n hM.1 hM.2.1 dL_law_1167 rfl (lv_at hl 0 rfl) ?_
  refine lv_iload_n hM.1 hM.2.1 dL_law_1168 rfl (lv_at hl 3 rfl) ?_
  refine lv_iconst (v := 1) hM.1 hM.2.1 dL_law_1169 ic_1 ?_
  refine lv_iadd hM.1 hM.2.1 dL_law_1170 ?_
  refine va_sld hM.1 hM.2.1 hX hbl (Nat.not_le.mpr hbl) hw.2.2.2.1 (sc_in (d := 1) rfl (by omega) hL) dL_law_1171 ?_
  refine y_callVI (rest := []) hM hw (ct_X11_hold l oC (xs (nI j + 1).toNatClampNeg)) [.int (xs (nI j + 1).toNatClampNeg)] (okX11.o oC) rfl rfl rfl (gi_V ml_L_142 im_X11_hold sl_X11_hold in_X11 kc_X11_hold) hd_X11_hold rfl ⟨Nat.le_of_ble_eq_true rfl, Nat.le_of_ble_eq_true rfl⟩ rfl (Nat.le_of_ble_eq_true rfl) hl.1 hF1 hcs dL_law_1172 (fun H locs hw => ?_)
  refine lv_aload_n hM.1 hM.2.1 dL_law_1175 rfl (lv_at hl 2 rfl) ?_
  refine lv_aload_n hM.1 hM.2.1 dL_law_1176 rfl (lv_at hl 0 rfl) ?_
  refine lv_iload_n hM.1 hM.2.1 dL_law_1177 rfl (lv_at hl 3 rfl) ?_
  refine lv_iconst (v := 1) hM.1 hM.2.1 dL_law_1178 ic_1 ?_
  refine lv_iadd hM.1 hM.2.1 dL_law_1179 ?_
  refine va_sld hM.1 hM.2.1 hX hbl (Nat.not_le.mpr hbl) hw.2.2.2.1 (sc_in (d := 1) rfl (by omega) hL) dL_law_1180 ?_
  have hw := wd_swap hw
  refine y_callVI (rest := [.int v]) hM hw (ct_X12_hold l oR (xs (nI j + 1).toNatClampNeg)) [.int (xs (nI j + 1).toNatClampNeg)] (okX12.o oR) rfl rfl rfl (gi_V ml_L_146 im_X12_hold sl_X12_hold in_X12 kc_X12_hold) hd_X12_hold rfl ⟨Nat.le_of_ble_eq_true rfl, Nat.le_of_ble_eq_true rfl⟩ rfl (Nat.le_of_ble_eq_true rfl) hl.1 hF2 hcs dL_law_1181 (fun H locs hw => ?_)
  have hw := wd_swap hw
  refine lv_icmp_eq (tgt := 1235) hM.1 hM.2.1 dL_law_1184 (by decide) (fun _ => ?_) (fun q => absurd rfl q)
  exact kk _ _ H locs hJ hw
set_option maxHeartbeats 4000000 in
set_option maxRecDepth 100000 in
theorem law_c31 {p : Program} {l : Launch} {e : Env} {s : State} {m : MethodId} {below : List Frame} {meth : Method} {c : Code} {Q : State → Prop} {D : va_G} {G : GG} {adC adR : Nat → Nat} {layC layR : List KK} {b L j : Nat} {xs : Nat → Int32} {hc hr : PH} {H : Heap} {locs : List Loc} {ls : Array Slot} {cells slots : Nat} {J : PH → PH → Prop} (hM : CallFix p m c cL_law 4 s #[Value.ref b] lw_g RL) (hX : va_X b L xs s s.heap) (hbl : b < s.heap.size) (hcs : cells ≤ room_1.cells ∧ slots ≤ room_1.slots) (oC : okX11 layC) (oR : okX12 layR) (hL : L ≤ 3072) (hj : j + 5 < L) (hl : lv_has ls 4 [(0, .ref b), (1, .ref (adC 0)), (2, .ref (adR 0)), (3, .int (nI j))]) (hw : Wd D G (fun q : Nat => s.heap.size ≤ q) s.heap adC layC (encA adR G hr 0 layR) hc s H locs) (hop : ∃ (v : Int32) (hc' : PH) (hr' : PH), c_X11_restore (xs (nI j + 1).toNatClampNeg) hc = some (v, hc') ∧ c_X12_restore (xs (nI j + 1).toNatClampNeg) hr = some (v, hr') ∧ J hc' hr') (kk : ∀ (hc' hr' : PH) (H : Heap) (locs : List Loc), J hc' hr' → Wd D G (fun q : Nat => s.heap.size ≤ q) s.heap adC layC (encA adR G hr' 0 layR) hc' s H locs → W p l e room_1 s m #[Value.ref b] below meth c H locs cells slots Q (F0 m 1235 ls [])) : W p l e room_1 s m #[Value.ref b] below meth c H locs cells slots Q (F0 m 1189 ls []) := by
  obtain ⟨v, hc', hr', hF1, hF2, hJ⟩ := hop
  refine lv_aload_n hM.1 hM.2.1 dL_law_1189 rfl (lv_at hl 1 rfl) ?_
  refine lv_aload_n hM.1 hM.2.1 dL_law_1190 rfl (lv_at hl 0 rfl) ?_
  refine lv_iload_n hM.1 hM.2.1 dL_law_1191 rfl (lv_at hl 3 rfl) ?_
  refine lv_iconst (v := 1) hM.1 hM.2.1 dL_law_1192 ic_1 ?_
  refine lv_iadd hM.1 hM.2.1 dL_law_1193 ?_
  refine va_sld hM.1 hM.2.1 hX hbl (Nat.not_le.mpr hbl) hw.2.2.2.1 (sc_in (d := 1) rfl (by omega) hL) dL_law_1194 ?_
  refine y_callVI (rest := []) hM hw (ct_X11_restore l oC (xs (nI j + 1).toNatClampNeg)) [.int (xs (nI j + 1).toNatClampNeg)] (okX11.o oC) rfl rfl rfl (gi_V ml_L_147 im_X11_restore sl_X11_restore in_X11 kc_X11_restore) hd_X11_restore rfl ⟨Nat.le_of_ble_eq_true rfl, Nat.le_of_ble_eq_true rfl⟩ rfl (Nat.le_of_ble_eq_true rfl) hl.1 hF1 hcs dL_law_1195 (fun H locs hw => ?_)
  refine lv_aload_n hM.1 hM.2.1 dL_law_1198 rfl (lv_at hl 2 rfl) ?_
  refine lv_aload_n hM.1 hM.2.1 dL_law_1199 rfl (lv_at hl 0 rfl) ?_
  refine lv_iload_n hM.1 hM.2.1 dL_law_1200 rfl (lv_at hl 3 rfl) ?_
  refine lv_iconst (v := 1) hM.1 hM.2.1 dL_law_1201 ic_1 ?_
  refine lv_iadd hM.1 hM.2.1 dL_law_1202 ?_
  refine va_sld hM.1 hM.2.1 hX hbl (Nat.not_le.mpr hbl) hw.2.2.2.1 (sc_in (d := 1) rfl (by omega) hL) dL_law_1203 ?_
  have hw := wd_swap hw
  refine y_callVI (rest := [.int v]) hM hw (ct_X12_restore l oR (xs (nI j + 1).toNatClampNeg)) [.int (xs (nI j + 1).toNatClampNeg)] (okX12.o oR) rfl rfl rfl (gi_V ml_L_150 im_X12_restore sl_X12_restore in_X12 kc_X12_restore) hd_X12_restore rfl ⟨Nat.le_of_ble_eq_true rfl, Nat.le_of_ble_eq_true rfl⟩ rfl (Nat.le_of_ble_eq_true rfl) hl.1 hF2 hcs dL_law_1204 (fun H locs hw => ?_)
  have hw := wd_swap hw
  refine lv_icmp_eq (tgt := 1235) hM.1 hM.2.1 dL_law_1207 (by decide) (fun _ => ?_) (fun q => absurd rfl q)
  exact kk _ _ H locs hJ hw
set_option maxHeartbeats 4000000 in
set_option maxRecDepth 100000 in
theorem law_c32 {p : Program} {l : Launch} {e : Env} {s : State} {m : MethodId} {below : List Frame} {meth : Method} {c : Code} {Q : State → Prop} {D : va_G} {G : GG} {adC adR : Nat → Nat} {layC layR : List KK} {b L j : Nat} {xs : Nat → Int32} {hc hr : PH} {H : Heap} {locs : List Loc} {ls : Array Slot} {cells slots : Nat} {J : PH → PH → Prop} (hM : CallFix p m c cL_law 4 s #[Value.ref b] lw_g RL) (hX : va_X b L xs s s.heap) (hbl : b < s.heap.size) (hcs : cells ≤ room_1.cells ∧ slots ≤ room_1.slots) (oC : okX11 layC) (oR : okX12 layR) (hL : L ≤ 3072) (hj : j + 5 < L) (hl : lv_has ls 4 [(0, .ref b), (1, .ref (adC 0)), (2, .ref (adR 0)), (3, .int (nI j))]) (hw : Wd D G (fun q : Nat => s.heap.size ≤ q) s.heap adC layC (encA adR G hr 0 layR) hc s H locs) (hop : ∃ (v : Int32), c_X11_count (xs (nI j + 1).toNatClampNeg) hc = some v ∧ c_X12_count (xs (nI j + 1).toNatClampNeg) hr = some v ∧ J hc hr) (kk : ∀ (hc' hr' : PH) (H : Heap) (locs : List Loc), J hc' hr' → Wd D G (fun q : Nat => s.heap.size ≤ q) s.heap adC layC (encA adR G hr' 0 layR) hc' s H locs → W p l e room_1 s m #[Value.ref b] below meth c H locs cells slots Q (F0 m 1235 ls [])) : W p l e room_1 s m #[Value.ref b] below meth c H locs cells slots Q (F0 m 1212 ls []) := by
  obtain ⟨v, hF1, hF2, hJ⟩ := hop
  refine lv_aload_n hM.1 hM.2.1 dL_law_1212 rfl (lv_at hl 1 rfl) ?_
  refine lv_aload_n hM.1 hM.2.1 dL_law_1213 rfl (lv_at hl 0 rfl) ?_
  refine lv_iload_n hM.1 hM.2.1 dL_law_1214 rfl (lv_at hl 3 rfl) ?_
  refine lv_iconst (v := 1) hM.1 hM.2.1 dL_law_1215 ic_1 ?_
  refine lv_iadd hM.1 hM.2.1 dL_law_1216 ?_
  refine va_sld hM.1 hM.2.1 hX hbl (Nat.not_le.mpr hbl) hw.2.2.2.1 (sc_in (d := 1) rfl (by omega) hL) dL_law_1217 ?_
  refine y_callVI (rest := []) hM hw (ct_X11_count l oC (xs (nI j + 1).toNatClampNeg)) [.int (xs (nI j + 1).toNatClampNeg)] (okX11.o oC) rfl rfl rfl (gi_V ml_L_151 im_X11_count sl_X11_count in_X11 kc_X11_count) hd_X11_count rfl ⟨Nat.le_of_ble_eq_true rfl, Nat.le_of_ble_eq_true rfl⟩ rfl (Nat.le_of_ble_eq_true rfl) hl.1 (rd_mk hF1) hcs dL_law_1218 (fun H locs hw => ?_)
  refine lv_aload_n hM.1 hM.2.1 dL_law_1221 rfl (lv_at hl 2 rfl) ?_
  refine lv_aload_n hM.1 hM.2.1 dL_law_1222 rfl (lv_at hl 0 rfl) ?_
  refine lv_iload_n hM.1 hM.2.1 dL_law_1223 rfl (lv_at hl 3 rfl) ?_
  refine lv_iconst (v := 1) hM.1 hM.2.1 dL_law_1224 ic_1 ?_
  refine lv_iadd hM.1 hM.2.1 dL_law_1225 ?_
  refine va_sld hM.1 hM.2.1 hX hbl (Nat.not_le.mpr hbl) hw.2.2.2.1 (sc_in (d := 1) rfl (by omega) hL) dL_law_1226 ?_
  have hw := wd_swap hw
  refine y_callVI (rest := [.int v]) hM hw (ct_X12_count l oR (xs (nI j + 1).toNatClampNeg)) [.int (xs (nI j + 1).toNatClampNeg)] (okX12.o oR) rfl rfl rfl (gi_V ml_L_154 im_X12_count sl_X12_count in_X12 kc_X12_count) hd_X12_count rfl ⟨Nat.le_of_ble_eq_true rfl, Nat.le_of_ble_eq_true rfl⟩ rfl (Nat.le_of_ble_eq_true rfl) hl.1 (rd_mk hF2) hcs dL_law_1227 (fun H locs hw => ?_)
  have hw := wd_swap hw
  refine lv_icmp_eq (tgt := 1235) hM.1 hM.2.1 dL_law_1230 (by decide) (fun _ => ?_) (fun q => absurd rfl q)
  exact kk _ _ H locs hJ hw
/-- what is to be shown of the calls: both sides answer alike, and go on alike -/
def OpsOK (I : Nat → PH → PH → Prop) : Prop := ∀ (n : Nat) (hc hr : PH), n < 512 → I n hc hr → 
  (∀ (a1 a2 a3 a4 a5 : Int32), ∃ (v : Int32) (hc' : PH) (hr' : PH), c_X11_feed a1 a2 a3 a4 a5 hc = some (v, hc') ∧ c_X12_feed a1 a2 a3 a4 a5 hr = some (v, hr') ∧ I (n + 1) hc' hr') ∧
  (∀ (a1 : Int32), ∃ (v : Int32) (hc' : PH) (hr' : PH), c_X11_back a1 hc = some (v, hc') ∧ c_X12_back a1 hr = some (v, hr') ∧ I (n + 1) hc' hr') ∧
  (∃ (v : Int32) (hc' : PH) (hr' : PH), c_X11_read hc = some (v, hc') ∧ c_X12_read hr = some (v, hr') ∧ I (n + 1) hc' hr') ∧
  (∃ (v : Int32), c_X11_place hc = some v ∧ c_X12_place hr = some v ∧ I (n + 1) hc hr) ∧
  (∀ (a1 a2 : Int32), ∃ (v : Int32), c_X11_man a1 a2 hc = some v ∧ c_X12_man a1 a2 hr = some v ∧ I (n + 1) hc hr) ∧
  (∀ (a1 a2 : Int32), ∃ (v : Int32), c_X11_excuse a1 a2 hc = some v ∧ c_X12_excuse a1 a2 hr = some v ∧ I (n + 1) hc hr) ∧
  (∀ (a1 a2 : Int32), ∃ (v : Int32), c_X11_duty a1 a2 hc = some v ∧ c_X12_duty a1 a2 hr = some v ∧ I (n + 1) hc hr) ∧
  (∀ (a1 a2 a3 : Int32), (a3 = 0 ∨ a3 = 1) → ∃ (v : Int32) (hr' : PH), c_X11_told a1 a2 a3 hc = some v ∧ c_X12_told a1 a2 a3 hr = some (v, hr') ∧ I (n + 1) hc hr') ∧
  (∀ (a1 : Int32), ∃ (v : Int32) (hr' : PH), c_X11_rains a1 hc = some v ∧ c_X12_rains a1 hr = some (v, hr') ∧ I (n + 1) hc hr') ∧
  (∀ (a1 : Int32), ∃ (v : Int32) (hc' : PH) (hr' : PH), c_X11_buy a1 hc = some (v, hc') ∧ c_X12_buy a1 hr = some (v, hr') ∧ I (n + 1) hc' hr') ∧
  (∀ (a1 : Int32), ∃ (v : Int32) (hc' : PH) (hr' : PH), c_X11_sell a1 hc = some (v, hc') ∧ c_X12_sell a1 hr = some (v, hr') ∧ I (n + 1) hc' hr') ∧
  (∀ (a1 a2 : Int32), ∃ (v : Int32) (hc' : PH) (hr' : PH), c_X11_plan a1 a2 hc = some (v, hc') ∧ c_X12_plan a1 a2 hr = some (v, hr') ∧ I (n + 1) hc' hr') ∧
  (∀ (a1 : Int32), ∃ (v : Int32) (hc' : PH) (hr' : PH), c_X11_days a1 hc = some (v, hc') ∧ c_X12_days a1 hr = some (v, hr') ∧ I (n + 1) hc' hr') ∧
  (∃ (v : Int32) (hc' : PH) (hr' : PH), c_X11_undo hc = some (v, hc') ∧ c_X12_undo hr = some (v, hr') ∧ I (n + 1) hc' hr') ∧
  (∀ (a1 a2 : Int32), ∃ (v : Int32) (hc' : PH) (hr' : PH), c_X11_pass a1 a2 hc = some (v, hc') ∧ c_X12_pass a1 a2 hr = some (v, hr') ∧ I (n + 1) hc' hr') ∧
  (∀ (a1 a2 : Int32), ∃ (v : Int32) (hc' : PH) (hr' : PH), c_X11_planned a1 a2 hc = some (v, hc') ∧ c_X12_planned a1 a2 hr = some (v, hr') ∧ I (n + 1) hc' hr') ∧
  (∀ (a1 a2 : Int32), ∃ (v : Int32) (hc' : PH) (hr' : PH), c_X11_trust a1 a2 hc = some (v, hc') ∧ c_X12_trust a1 a2 hr = some (v, hr') ∧ I (n + 1) hc' hr') ∧
  (∀ (a1 a2 : Int32), ∃ (v : Int32) (hc' : PH) (hr' : PH), c_X11_year a1 a2 hc = some (v, hc') ∧ c_X12_year a1 a2 hr = some (v, hr') ∧ I (n + 1) hc' hr') ∧
  (∀ (a1 a2 : Int32), ∃ (v : Int32) (hc' : PH) (hr' : PH), c_X11_cheapest a1 a2 hc = some (v, hc') ∧ c_X12_cheapest a1 a2 hr = some (v, hr') ∧ I (n + 1) hc' hr') ∧
  (∀ (a1 a2 a3 : Int32), ∃ (v : Int32) (hc' : PH) (hr' : PH), c_X11_cheapestAt a1 a2 a3 hc = some (v, hc') ∧ c_X12_cheapestAt a1 a2 a3 hr = some (v, hr') ∧ I (n + 1) hc' hr') ∧
  (∀ (a1 : Int32), ∃ (v : Int32) (hr' : PH), c_X11_two a1 hc = some v ∧ c_X12_two a1 hr = some (v, hr') ∧ I (n + 1) hc hr') ∧
  (∀ (a1 a2 : Int32), ∃ (v : Int32), c_X11_rumour a1 a2 hc = some v ∧ c_X12_rumour a1 a2 hr = some v ∧ I (n + 1) hc hr) ∧
  (∀ (a1 : Int32), ∃ (v : Int32), c_X11_apart a1 hc = some v ∧ c_X12_apart a1 hr = some v ∧ I (n + 1) hc hr) ∧
  (∀ (a1 a2 a3 a4 a5 : Int32), ∃ (v : Int32) (hc' : PH), c_X11_sellers a1 a2 a3 a4 a5 hc = some (v, hc') ∧ c_X12_sellers a1 a2 a3 a4 a5 = some v ∧ I (n + 1) hc' hr) ∧
  (∀ (a1 a2 a3 : Int32), ∃ (v : Int32) (hc' : PH) (hr' : PH), c_X11_calm a1 a2 a3 hc = some (v, hc') ∧ c_X12_calm a1 a2 a3 hr = some (v, hr') ∧ I (n + 1) hc' hr') ∧
  (∀ (a1 a2 a3 a4 : Int32), ∃ (v : Int32) (hc' : PH) (hr' : PH), c_X11_say a1 a2 a3 a4 hc = some (v, hc') ∧ c_X12_say a1 a2 a3 a4 hr = some (v, hr') ∧ I (n + 1) hc' hr') ∧
  (∀ (a1 a2 a3 : Int32), ∃ (v : Int32), c_X11_span a1 a2 a3 hc = some v ∧ c_X12_span a1 a2 a3 hr = some v ∧ I (n + 1) hc hr) ∧
  (∀ (a1 a2 a3 : Int32), ∃ (v : Int32) (hc' : PH) (hr' : PH), c_X11_know a1 a2 a3 hc = some (v, hc') ∧ c_X12_know a1 a2 a3 hr = some (v, hr') ∧ I (n + 1) hc' hr') ∧
  (∀ (a1 a2 : Int32), ∃ (v : Int32) (hc' : PH) (hr' : PH), c_X11_fits a1 a2 hc = some (v, hc') ∧ c_X12_fits a1 a2 hr = some (v, hr') ∧ I (n + 1) hc' hr') ∧
  (∃ (v : Int32) (hc' : PH) (hr' : PH), c_X11_forget hc = some (v, hc') ∧ c_X12_forget hr = some (v, hr') ∧ I (n + 1) hc' hr') ∧
  (∀ (a1 : Int32), ∃ (v : Int32) (hc' : PH) (hr' : PH), c_X11_hold a1 hc = some (v, hc') ∧ c_X12_hold a1 hr = some (v, hr') ∧ I (n + 1) hc' hr') ∧
  (∀ (a1 : Int32), ∃ (v : Int32) (hc' : PH) (hr' : PH), c_X11_restore a1 hc = some (v, hc') ∧ c_X12_restore a1 hr = some (v, hr') ∧ I (n + 1) hc' hr') ∧
  (∀ (a1 : Int32), ∃ (v : Int32), c_X11_count a1 hc = some v ∧ c_X12_count a1 hr = some v ∧ I (n + 1) hc hr) ∧
  (I (n + 1) hc hr)
theorem sc_next (k : Nat) : nI (6 * k) + Int32.ofInt 6 = nI (6 * (k + 1)) := by
  show nI (6 * k) + nI 6 = _
  rw [nI_add]
  rfl
theorem sc_le {L k : Nat} (hL : L ≤ 3072) (hk : k ≤ 3072) (h : ¬ (Int32.ofNat L - 6 < nI k)) : k + 5 < L := by
  have h1 : (nI L - nI 6).toInt = (L : Int) - 6 := pk_sub_toInt (by omega) (by omega)
  have h2 : (nI k).toInt = (k : Int) := nI_toInt (by omega)
  have h3 : ¬ ((nI L - nI 6).toInt < (nI k).toInt) := fun q => h (Int32.lt_iff_toInt_lt.mpr q)
  rw [h1, h2] at h3
  omega
theorem sw_neI {x v : Int32} (h : ¬ x = v) {k : Int} (hk : v.toInt = k) : x.toInt ≠ k := fun q => h (Int32.toInt_inj.mp (q.trans hk.symm))
theorem x_tabIn2 {p : Program} {l : Launch} {e : Env} {R : Room} {s : State} {m : MethodId} {args : Array Value} {below : List Frame} {meth : Method} {c : Code} {H : Heap} {locs : List Loc} {Q : State → Prop} {cc : ByteArray} {nL pc : Nat} {own : String} {ls : Array Slot} {rest : List Value} {cells slots : Nat} (hM : CallFix p m c cc nL s args lw_g own) {dflt lo hi : Int} {offs : Array Int} {len : Nat} {x v : Int32} {off : Int} {tgt : Nat} (hx : x = v) (hdg : decode cc pc = .ok (.tableswitch dflt lo hi offs, len)) (h1 : ¬ v.toInt < lo) (h2 : ¬ hi < v.toInt) (ho : offs[(v.toInt - lo).toNat]? = some off) (ht : (pc : Int) + off = (tgt : Int))
    (k : W p l e R s m args below meth c H locs cells slots Q (F0 m tgt ls rest)) : W p l e R s m args below meth c H locs cells slots Q (F0 m pc ls (.int x :: rest)) := by
  subst hx
  exact lv_tableIn hM.1 hM.2.1 hdg h1 h2 ho ht k
set_option maxHeartbeats 8000000 in
set_option maxRecDepth 100000 in
theorem law_loop {p : Program} {l : Launch} {e : Env} {s : State} {m : MethodId} {below : List Frame} {meth : Method} {c : Code} {D : va_G} {G : GG} {adC adR : Nat → Nat} {layC layR : List KK} {b L : Nat} {xs : Nat → Int32} {Q : State → Prop} {cells slots : Nat} {I : Nat → PH → PH → Prop} (hI : OpsOK I) (hM : CallFix p m c cL_law 4 s #[Value.ref b] lw_g RL) (hX : va_X b L xs s s.heap) (hbl : b < s.heap.size) (hcs : cells ≤ room_1.cells ∧ slots ≤ room_1.slots) (oC : okX11 layC) (oR : okX12 layR) (hL : L ≤ 3072)
    (hend : ∀ (H : Heap) (locs : List Loc) (ls : Array Slot), va_S (fun q : Nat => s.heap.size ≤ q) s.heap H locs → W p l e room_1 s m #[Value.ref b] below meth c H locs cells slots Q (F0 m 1241 ls [])) : ∀ (f k : Nat), L - 6 * k < f → ∀ (hc hr : PH) (H : Heap) (locs : List Loc) (ls : Array Slot), k ≤ 512 → I k hc hr → Wd D G (fun q : Nat => s.heap.size ≤ q) s.heap adC layC (encA adR G hr 0 layR) hc s H locs → lv_has ls 4 [(0, .ref b), (1, .ref (adC 0)), (2, .ref (adR 0)), (3, .int (nI (6 * k)))] → W p l e room_1 s m #[Value.ref b] below meth c H locs cells slots Q (F0 m 18 ls [])
  | 0, k, hf => fun _ _ _ _ _ _ _ _ _ => absurd hf (by omega)
  | f + 1, k, hf => fun hc hr H locs ls hk hi hw hl => by
    refine lv_iload_n hM.1 hM.2.1 dL_law_18 rfl (lv_at hl 3 rfl) ?_
    refine lv_aload_n hM.1 hM.2.1 dL_law_19 rfl (lv_at hl 0 rfl) ?_
    refine va_slen hM.1 hM.2.1 hX hbl (Nat.not_le.mpr hbl) hw.2.2.2.1 dL_law_20 ?_
    refine lv_bipush (v := 6) hM.1 hM.2.1 dL_law_21 (by decide) ?_
    refine lv_isub hM.1 hM.2.1 dL_law_23 ?_
    refine lv_icmp_gt (tgt := 1241) hM.1 hM.2.1 dL_law_24 (by decide) (fun _ => hend H locs ls hw.2.2.2.1) (fun hle => ?_)
    have hj : 6 * k + 5 < L := sc_le hL (by omega) hle
    have hk1 : k < 512 := by omega
    refine lv_aload_n hM.1 hM.2.1 dL_law_27 rfl (lv_at hl 0 rfl) ?_
    refine lv_iload_n hM.1 hM.2.1 dL_law_28 rfl (lv_at hl 3 rfl) ?_
    refine va_sld hM.1 hM.2.1 hX hbl (Nat.not_le.mpr hbl) hw.2.2.2.1 (sc_in0 (by omega) hL) dL_law_29 ?_
    refine lv_bipush (v := 63) hM.1 hM.2.1 dL_law_30 (by decide) ?_
    refine lv_iand hM.1 hM.2.1 dL_law_32 ?_
    generalize hx : xs (nI (6 * k)).toNatClampNeg &&& 63 = x
    have hstep : ∀ (hc' hr' : PH) (H : Heap) (locs : List Loc), I (k + 1) hc' hr' → Wd D G (fun q : Nat => s.heap.size ≤ q) s.heap adC layC (encA adR G hr' 0 layR) hc' s H locs → W p l e room_1 s m #[Value.ref b] below meth c H locs cells slots Q (F0 m 1235 ls []) := by
      intro hc' hr' H locs hi' hw'
      refine lv_iinc (k := 3) (v := nI (6 * (k + 1))) (lv' := [(3, .int (nI (6 * (k + 1)))), (0, .ref b), (1, .ref (adC 0)), (2, .ref (adR 0))]) hM.1 hM.2.1 dL_law_1235 hl rfl (sc_next k) (by decide) rfl (fun ls hl => ?_)
      refine lv_goto (tgt := 18) hM.1 hM.2.1 dL_law_1238 (by decide) ?_
      exact law_loop hI hM hX hbl hcs oC oR hL hend f (k + 1) (by omega) hc' hr' H locs ls (by omega) hi' hw' (lv_sub hl [1, 2, 3, 0] rfl)
    obtain ⟨o0, o1, o2, o3, o4, o5, o6, o7, o8, o9, o10, o11, o12, o13, o14, o15, o16, o17, o18, o19, o20, o21, o22, o23, o24, o25, o26, o27, o28, o29, o30, o31, o32, hdef⟩ := hI k hc hr hk1 hi
    by_cases q0 : x = 0
    · refine x_tabIn2 (tgt := 180) hM q0 dL_law_33 (by decide) (by decide) rfl (by decide) ?_
      exact law_c0 (J := I (k + 1)) hM hX hbl hcs oC oR hL hj hl hw (o0 _ _ _ _ _) hstep
    by_cases q1 : x = 1
    · refine x_tabIn2 (tgt := 243) hM q1 dL_law_33 (by decide) (by decide) rfl (by decide) ?_
      exact law_c1 (J := I (k + 1)) hM hX hbl hcs oC oR hL hj hl hw (o1 _) hstep
    by_cases q2 : x = 2
    · refine x_tabIn2 (tgt := 266) hM q2 dL_law_33 (by decide) (by decide) rfl (by decide) ?_
      exact law_c2 (J := I (k + 1)) hM hX hbl hcs oC oR hL hj hl hw (o2) hstep
    by_cases q3 : x = 3
    · refine x_tabIn2 (tgt := 279) hM q3 dL_law_33 (by decide) (by decide) rfl (by decide) ?_
      exact law_c3 (J := I (k + 1)) hM hX hbl hcs oC oR hL hj hl hw (o3) hstep
    by_cases q4 : x = 4
    · refine x_tabIn2 (tgt := 292) hM q4 dL_law_33 (by decide) (by decide) rfl (by decide) ?_
      exact law_c4 (J := I (k + 1)) hM hX hbl hcs oC oR hL hj hl hw (o4 _ _) hstep
    by_cases q5 : x = 5
    · refine x_tabIn2 (tgt := 325) hM q5 dL_law_33 (by decide) (by decide) rfl (by decide) ?_
      exact law_c5 (J := I (k + 1)) hM hX hbl hcs oC oR hL hj hl hw (o5 _ _) hstep
    by_cases q6 : x = 6
    · refine x_tabIn2 (tgt := 358) hM q6 dL_law_33 (by decide) (by decide) rfl (by decide) ?_
      exact law_c6 (J := I (k + 1)) hM hX hbl hcs oC oR hL hj hl hw (o6 _ _) hstep
    by_cases q7 : x = 7
    · refine x_tabIn2 (tgt := 391) hM q7 dL_law_33 (by decide) (by decide) rfl (by decide) ?_
      exact law_c7 (J := I (k + 1)) hM hX hbl hcs oC oR hL hj hl hw (o7 _ _ _ (by by_cases q : xs (nI (6 * k) + 3).toNatClampNeg = 0 <;> simp [q])) hstep
    by_cases q8 : x = 8
    · refine x_tabIn2 (tgt := 450) hM q8 dL_law_33 (by decide) (by decide) rfl (by decide) ?_
      exact law_c8 (J := I (k + 1)) hM hX hbl hcs oC oR hL hj hl hw (o8 _) hstep
    by_cases q9 : x = 9
    · refine x_tabIn2 (tgt := 473) hM q9 dL_law_33 (by decide) (by decide) rfl (by decide) ?_
      exact law_c9 (J := I (k + 1)) hM hX hbl hcs oC oR hL hj hl hw (o9 _) hstep
    by_cases q10 : x = 10
    · refine x_tabIn2 (tgt := 496) hM q10 dL_law_33 (by decide) (by decide) rfl (by decide) ?_
      exact law_c10 (J := I (k + 1)) hM hX hbl hcs oC oR hL hj hl hw (o10 _) hstep
    by_cases q11 : x = 11
    · refine x_tabIn2 (tgt := 519) hM q11 dL_law_33 (by decide) (by decide) rfl (by decide) ?_
      exact law_c11 (J := I (k + 1)) hM hX hbl hcs oC oR hL hj hl hw (o11 _ _) hstep
    by_cases q12 : x = 12
    · refine x_tabIn2 (tgt := 552) hM q12 dL_law_33 (by decide) (by decide) rfl (by decide) ?_
      exact law_c12 (J := I (k + 1)) hM hX hbl hcs oC oR hL hj hl hw (o12 _) hstep
    by_cases q13 : x = 13
    · refine x_tabIn2 (tgt := 575) hM q13 dL_law_33 (by decide) (by decide) rfl (by decide) ?_
      exact law_c13 (J := I (k + 1)) hM hX hbl hcs oC oR hL hj hl hw (o13) hstep
    by_cases q14 : x = 14
    · refine x_tabIn2 (tgt := 588) hM q14 dL_law_33 (by decide) (by decide) rfl (by decide) ?_
      exact law_c14 (J := I (k + 1)) hM hX hbl hcs oC oR hL hj hl hw (o14 _ _) hstep
    by_cases q15 : x = 15
    · refine x_tabIn2 (tgt := 621) hM q15 dL_law_33 (by decide) (by decide) rfl (by decide) ?_
      exact law_c15 (J := I (k + 1)) hM hX hbl hcs oC oR hL hj hl hw (o15 _ _) hstep
    by_cases q16 : x = 16
    · refine x_tabIn2 (tgt := 654) hM q16 dL_law_33 (by decide) (by decide) rfl (by decide) ?_
      exact law_c16 (J := I (k + 1)) hM hX hbl hcs oC oR hL hj hl hw (o16 _ _) hstep
    by_cases q17 : x = 17
    · refine x_tabIn2 (tgt := 687) hM q17 dL_law_33 (by decide) (by decide) rfl (by decide) ?_
      exact law_c17 (J := I (k + 1)) hM hX hbl hcs oC oR hL hj hl hw (o17 _ _) hstep
    by_cases q18 : x = 18
    · refine x_tabIn2 (tgt := 720) hM q18 dL_law_33 (by decide) (by decide) rfl (by decide) ?_
      exact law_c18 (J := I (k + 1)) hM hX hbl hcs oC oR hL hj hl hw (o18 _ _) hstep
    by_cases q19 : x = 19
    · refine x_tabIn2 (tgt := 753) hM q19 dL_law_33 (by decide) (by decide) rfl (by decide) ?_
      exact law_c19 (J := I (k + 1)) hM hX hbl hcs oC oR hL hj hl hw (o19 _ _ _) hstep
    by_cases q20 : x = 20
    · refine x_tabIn2 (tgt := 796) hM q20 dL_law_33 (by decide) (by decide) rfl (by decide) ?_
      exact law_c20 (J := I (k + 1)) hM hX hbl hcs oC oR hL hj hl hw (o20 _) hstep
    by_cases q21 : x = 21
    · refine x_tabIn2 (tgt := 819) hM q21 dL_law_33 (by decide) (by decide) rfl (by decide) ?_
      exact law_c21 (J := I (k + 1)) hM hX hbl hcs oC oR hL hj hl hw (o21 _ _) hstep
    by_cases q22 : x = 22
    · refine x_tabIn2 (tgt := 852) hM q22 dL_law_33 (by decide) (by decide) rfl (by decide) ?_
      exact law_c22 (J := I (k + 1)) hM hX hbl hcs oC oR hL hj hl hw (o22 _) hstep
    by_cases q23 : x = 23
    · refine x_tabIn2 (tgt := 875) hM q23 dL_law_33 (by decide) (by decide) rfl (by decide) ?_
      exact law_c23 (J := I (k + 1)) hM hX hbl hcs oC oR hL hj hl hw (o23 _ _ _ _ _) hstep
    by_cases q24 : x = 24
    · refine x_tabIn2 (tgt := 938) hM q24 dL_law_33 (by decide) (by decide) rfl (by decide) ?_
      exact law_c24 (J := I (k + 1)) hM hX hbl hcs oC oR hL hj hl hw (o24 _ _ _) hstep
    by_cases q25 : x = 25
    · refine x_tabIn2 (tgt := 981) hM q25 dL_law_33 (by decide) (by decide) rfl (by decide) ?_
      exact law_c25 (J := I (k + 1)) hM hX hbl hcs oC oR hL hj hl hw (o25 _ _ _ _) hstep
    by_cases q26 : x = 26
    · refine x_tabIn2 (tgt := 1034) hM q26 dL_law_33 (by decide) (by decide) rfl (by decide) ?_
      exact law_c26 (J := I (k + 1)) hM hX hbl hcs oC oR hL hj hl hw (o26 _ _ _) hstep
    by_cases q27 : x = 27
    · refine x_tabIn2 (tgt := 1077) hM q27 dL_law_33 (by decide) (by decide) rfl (by decide) ?_
      exact law_c27 (J := I (k + 1)) hM hX hbl hcs oC oR hL hj hl hw (o27 _ _ _) hstep
    by_cases q28 : x = 28
    · refine x_tabIn2 (tgt := 1120) hM q28 dL_law_33 (by decide) (by decide) rfl (by decide) ?_
      exact law_c28 (J := I (k + 1)) hM hX hbl hcs oC oR hL hj hl hw (o28 _ _) hstep
    by_cases q29 : x = 29
    · refine x_tabIn2 (tgt := 1153) hM q29 dL_law_33 (by decide) (by decide) rfl (by decide) ?_
      exact law_c29 (J := I (k + 1)) hM hX hbl hcs oC oR hL hj hl hw (o29) hstep
    by_cases q30 : x = 30
    · refine x_tabIn2 (tgt := 1166) hM q30 dL_law_33 (by decide) (by decide) rfl (by decide) ?_
      exact law_c30 (J := I (k + 1)) hM hX hbl hcs oC oR hL hj hl hw (o30 _) hstep
    by_cases q31 : x = 31
    · refine x_tabIn2 (tgt := 1189) hM q31 dL_law_33 (by decide) (by decide) rfl (by decide) ?_
      exact law_c31 (J := I (k + 1)) hM hX hbl hcs oC oR hL hj hl hw (o31 _) hstep
    by_cases q32 : x = 32
    · refine x_tabIn2 (tgt := 1212) hM q32 dL_law_33 (by decide) (by decide) rfl (by decide) ?_
      exact law_c32 (J := I (k + 1)) hM hX hbl hcs oC oR hL hj hl hw (o32 _) hstep
    refine lv_tableOut (tgt := 1235) hM.1 hM.2.1 dL_law_33 (by have := sw_neI q0 (k := 0) (by decide); have := sw_neI q1 (k := 1) (by decide); have := sw_neI q2 (k := 2) (by decide); have := sw_neI q3 (k := 3) (by decide); have := sw_neI q4 (k := 4) (by decide); have := sw_neI q5 (k := 5) (by decide); have := sw_neI q6 (k := 6) (by decide); have := sw_neI q7 (k := 7) (by decide); have := sw_neI q8 (k := 8) (by decide); have := sw_neI q9 (k := 9) (by decide); have := sw_neI q10 (k := 10) (by decide); have := sw_neI q11 (k := 11) (by decide); have := sw_neI q12 (k := 12) (by decide); have := sw_neI q13 (k := 13) (by decide); have := sw_neI q14 (k := 14) (by decide); have := sw_neI q15 (k := 15) (by decide); have := sw_neI q16 (k := 16) (by decide); have := sw_neI q17 (k := 17) (by decide); have := sw_neI q18 (k := 18) (by decide); have := sw_neI q19 (k := 19) (by decide); have := sw_neI q20 (k := 20) (by decide); have := sw_neI q21 (k := 21) (by decide); have := sw_neI q22 (k := 22) (by decide); have := sw_neI q23 (k := 23) (by decide); have := sw_neI q24 (k := 24) (by decide); have := sw_neI q25 (k := 25) (by decide); have := sw_neI q26 (k := 26) (by decide); have := sw_neI q27 (k := 27) (by decide); have := sw_neI q28 (k := 28) (by decide); have := sw_neI q29 (k := 29) (by decide); have := sw_neI q30 (k := 30) (by decide); have := sw_neI q31 (k := 31) (by decide); have := sw_neI q32 (k := 32) (by decide); omega) (by decide) ?_
    exact hstep hc hr H locs hdef hw
