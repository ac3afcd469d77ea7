theorem dL_law_0 : decode cL_law 0 = .ok (.new 7, 3) := by decide +kernel
theorem dL_law_3 : decode cL_law 3 = .ok (.dup, 1) := by decide +kernel
theorem dL_law_4 : decode cL_law 4 = .ok (.invokespecial 9, 3) := by decide +kernel
theorem dL_law_7 : decode cL_law 7 = .ok (.astore_n 1, 1) := by decide +kernel
theorem dL_law_8 : decode cL_law 8 = .ok (.new 10, 3) := by decide +kernel
theorem dL_law_11 : decode cL_law 11 = .ok (.dup, 1) := by decide +kernel
theorem dL_law_12 : decode cL_law 12 = .ok (.invokespecial 12, 3) := by decide +kernel
theorem dL_law_15 : decode cL_law 15 = .ok (.astore_n 2, 1) := by decide +kernel
theorem dL_law_16 : decode cL_law 16 = .ok (.iconst 0, 1) := by decide +kernel
theorem dL_law_17 : decode cL_law 17 = .ok (.istore_n 3, 1) := by decide +kernel
theorem dL_law_18 : decode cL_law 18 = .ok (.iload_n 3, 1) := by decide +kernel
theorem dL_law_19 : decode cL_law 19 = .ok (.aload_n 0, 1) := by decide +kernel
theorem dL_law_20 : decode cL_law 20 = .ok (.arraylength, 1) := by decide +kernel
theorem dL_law_21 : decode cL_law 21 = .ok (.bipush 7, 2) := by decide +kernel
theorem dL_law_23 : decode cL_law 23 = .ok (.isub, 1) := by decide +kernel
theorem dL_law_24 : decode cL_law 24 = .ok (.if_icmp .gt 1534, 3) := by decide +kernel
theorem dL_law_27 : decode cL_law 27 = .ok (.aload_n 0, 1) := by decide +kernel
theorem dL_law_28 : decode cL_law 28 = .ok (.iload_n 3, 1) := by decide +kernel
theorem dL_law_29 : decode cL_law 29 = .ok (.iaload, 1) := by decide +kernel
theorem dL_law_30 : decode cL_law 30 = .ok (.bipush 63, 2) := by decide +kernel
theorem dL_law_32 : decode cL_law 32 = .ok (.iand, 1) := by decide +kernel
theorem dL_law_33 : decode cL_law 33 = .ok (.tableswitch 1519 0 39 #[175, 250, 293, 346, 369, 402, 425, 468, 481, 514, 557, 590, 623, 666, 699, 742, 775, 818, 861, 884, 927, 950, 973, 996, 1029, 1062, 1086, 1109, 1132, 1155, 1188, 1201, 1214, 1247, 1290, 1363, 1397, 1460, 1473, 1496], 175) := by decide +kernel
theorem dL_law_208 : decode cL_law 208 = .ok (.aload_n 1, 1) := by decide +kernel
theorem dL_law_209 : decode cL_law 209 = .ok (.aload_n 0, 1) := by decide +kernel
theorem dL_law_210 : decode cL_law 210 = .ok (.iload_n 3, 1) := by decide +kernel
theorem dL_law_211 : decode cL_law 211 = .ok (.iconst 1, 1) := by decide +kernel
theorem dL_law_212 : decode cL_law 212 = .ok (.iadd, 1) := by decide +kernel
theorem dL_law_213 : decode cL_law 213 = .ok (.iaload, 1) := by decide +kernel
theorem dL_law_214 : decode cL_law 214 = .ok (.aload_n 0, 1) := by decide +kernel
theorem dL_law_215 : decode cL_law 215 = .ok (.iload_n 3, 1) := by decide +kernel
theorem dL_law_216 : decode cL_law 216 = .ok (.iconst 2, 1) := by decide +kernel
theorem dL_law_217 : decode cL_law 217 = .ok (.iadd, 1) := by decide +kernel
theorem dL_law_218 : decode cL_law 218 = .ok (.iaload, 1) := by decide +kernel
theorem dL_law_219 : decode cL_law 219 = .ok (.aload_n 0, 1) := by decide +kernel
theorem dL_law_220 : decode cL_law 220 = .ok (.iload_n 3, 1) := by decide +kernel
theorem dL_law_221 : decode cL_law 221 = .ok (.iconst 3, 1) := by decide +kernel
theorem dL_law_222 : decode cL_law 222 = .ok (.iadd, 1) := by decide +kernel
theorem dL_law_223 : decode cL_law 223 = .ok (.iaload, 1) := by decide +kernel
theorem dL_law_224 : decode cL_law 224 = .ok (.aload_n 0, 1) := by decide +kernel
theorem dL_law_225 : decode cL_law 225 = .ok (.iload_n 3, 1) := by decide +kernel
theorem dL_law_226 : decode cL_law 226 = .ok (.iconst 4, 1) := by decide +kernel
theorem dL_law_227 : decode cL_law 227 = .ok (.iadd, 1) := by decide +kernel
theorem dL_law_228 : decode cL_law 228 = .ok (.iaload, 1) := by decide +kernel
theorem dL_law_229 : decode cL_law 229 = .ok (.aload_n 0, 1) := by decide +kernel
theorem dL_law_230 : decode cL_law 230 = .ok (.iload_n 3, 1) := by decide +kernel
theorem dL_law_231 : decode cL_law 231 = .ok (.iconst 5, 1) := by decide +kernel
theorem dL_law_232 : decode cL_law 232 = .ok (.iadd, 1) := by decide +kernel
theorem dL_law_233 : decode cL_law 233 = .ok (.iaload, 1) := by decide +kernel
theorem dL_law_234 : decode cL_law 234 = .ok (.aload_n 0, 1) := by decide +kernel
theorem dL_law_235 : decode cL_law 235 = .ok (.iload_n 3, 1) := by decide +kernel
theorem dL_law_236 : decode cL_law 236 = .ok (.bipush 6, 2) := by decide +kernel
theorem dL_law_238 : decode cL_law 238 = .ok (.iadd, 1) := by decide +kernel
theorem dL_law_239 : decode cL_law 239 = .ok (.iaload, 1) := by decide +kernel
theorem dL_law_240 : decode cL_law 240 = .ok (.invokevirtual 13, 3) := by decide +kernel
theorem dL_law_243 : decode cL_law 243 = .ok (.aload_n 2, 1) := by decide +kernel
theorem dL_law_244 : decode cL_law 244 = .ok (.aload_n 0, 1) := by decide +kernel
theorem dL_law_245 : decode cL_law 245 = .ok (.iload_n 3, 1) := by decide +kernel
theorem dL_law_246 : decode cL_law 246 = .ok (.iconst 1, 1) := by decide +kernel
theorem dL_law_247 : decode cL_law 247 = .ok (.iadd, 1) := by decide +kernel
theorem dL_law_248 : decode cL_law 248 = .ok (.iaload, 1) := by decide +kernel
theorem dL_law_249 : decode cL_law 249 = .ok (.aload_n 0, 1) := by decide +kernel
theorem dL_law_250 : decode cL_law 250 = .ok (.iload_n 3, 1) := by decide +kernel
theorem dL_law_251 : decode cL_law 251 = .ok (.iconst 2, 1) := by decide +kernel
theorem dL_law_252 : decode cL_law 252 = .ok (.iadd, 1) := by decide +kernel
theorem dL_law_253 : decode cL_law 253 = .ok (.iaload, 1) := by decide +kernel
theorem dL_law_254 : decode cL_law 254 = .ok (.aload_n 0, 1) := by decide +kernel
theorem dL_law_255 : decode cL_law 255 = .ok (.iload_n 3, 1) := by decide +kernel
theorem dL_law_256 : decode cL_law 256 = .ok (.iconst 3, 1) := by decide +kernel
theorem dL_law_257 : decode cL_law 257 = .ok (.iadd, 1) := by decide +kernel
theorem dL_law_258 : decode cL_law 258 = .ok (.iaload, 1) := by decide +kernel
theorem dL_law_259 : decode cL_law 259 = .ok (.aload_n 0, 1) := by decide +kernel
theorem dL_law_260 : decode cL_law 260 = .ok (.iload_n 3, 1) := by decide +kernel
theorem dL_law_261 : decode cL_law 261 = .ok (.iconst 4, 1) := by decide +kernel
theorem dL_law_262 : decode cL_law 262 = .ok (.iadd, 1) := by decide +kernel
theorem dL_law_263 : decode cL_law 263 = .ok (.iaload, 1) := by decide +kernel
theorem dL_law_264 : decode cL_law 264 = .ok (.aload_n 0, 1) := by decide +kernel
theorem dL_law_265 : decode cL_law 265 = .ok (.iload_n 3, 1) := by decide +kernel
theorem dL_law_266 : decode cL_law 266 = .ok (.iconst 5, 1) := by decide +kernel
theorem dL_law_267 : decode cL_law 267 = .ok (.iadd, 1) := by decide +kernel
theorem dL_law_268 : decode cL_law 268 = .ok (.iaload, 1) := by decide +kernel
theorem dL_law_269 : decode cL_law 269 = .ok (.aload_n 0, 1) := by decide +kernel
theorem dL_law_270 : decode cL_law 270 = .ok (.iload_n 3, 1) := by decide +kernel
theorem dL_law_271 : decode cL_law 271 = .ok (.bipush 6, 2) := by decide +kernel
theorem dL_law_273 : decode cL_law 273 = .ok (.iadd, 1) := by decide +kernel
theorem dL_law_274 : decode cL_law 274 = .ok (.iaload, 1) := by decide +kernel
theorem dL_law_275 : decode cL_law 275 = .ok (.invokevirtual 17, 3) := by decide +kernel
theorem dL_law_278 : decode cL_law 278 = .ok (.if_icmp .eq 1274, 3) := by decide +kernel
theorem dL_law_281 : decode cL_law 281 = .ok (.iconst 0, 1) := by decide +kernel
theorem dL_law_282 : decode cL_law 282 = .ok (.ireturn, 1) := by decide +kernel
theorem dL_law_283 : decode cL_law 283 = .ok (.aload_n 1, 1) := by decide +kernel
theorem dL_law_284 : decode cL_law 284 = .ok (.aload_n 0, 1) := by decide +kernel
theorem dL_law_285 : decode cL_law 285 = .ok (.iload_n 3, 1) := by decide +kernel
theorem dL_law_286 : decode cL_law 286 = .ok (.iconst 1, 1) := by decide +kernel
theorem dL_law_287 : decode cL_law 287 = .ok (.iadd, 1) := by decide +kernel
theorem dL_law_288 : decode cL_law 288 = .ok (.iaload, 1) := by decide +kernel
theorem dL_law_289 : decode cL_law 289 = .ok (.aload_n 0, 1) := by decide +kernel
theorem dL_law_290 : decode cL_law 290 = .ok (.iload_n 3, 1) := by decide +kernel
theorem dL_law_291 : decode cL_law 291 = .ok (.iconst 2, 1) := by decide +kernel
theorem dL_law_292 : decode cL_law 292 = .ok (.iadd, 1) := by decide +kernel
theorem dL_law_293 : decode cL_law 293 = .ok (.iaload, 1) := by decide +kernel
theorem dL_law_294 : decode cL_law 294 = .ok (.aload_n 0, 1) := by decide +kernel
theorem dL_law_295 : decode cL_law 295 = .ok (.iload_n 3, 1) := by decide +kernel
theorem dL_law_296 : decode cL_law 296 = .ok (.iconst 3, 1) := by decide +kernel
theorem dL_law_297 : decode cL_law 297 = .ok (.iadd, 1) := by decide +kernel
theorem dL_law_298 : decode cL_law 298 = .ok (.iaload, 1) := by decide +kernel
theorem dL_law_299 : decode cL_law 299 = .ok (.invokevirtual 18, 3) := by decide +kernel
theorem dL_law_302 : decode cL_law 302 = .ok (.aload_n 2, 1) := by decide +kernel
theorem dL_law_303 : decode cL_law 303 = .ok (.aload_n 0, 1) := by decide +kernel
theorem dL_law_304 : decode cL_law 304 = .ok (.iload_n 3, 1) := by decide +kernel
theorem dL_law_305 : decode cL_law 305 = .ok (.iconst 1, 1) := by decide +kernel
theorem dL_law_306 : decode cL_law 306 = .ok (.iadd, 1) := by decide +kernel
theorem dL_law_307 : decode cL_law 307 = .ok (.iaload, 1) := by decide +kernel
theorem dL_law_308 : decode cL_law 308 = .ok (.aload_n 0, 1) := by decide +kernel
theorem dL_law_309 : decode cL_law 309 = .ok (.iload_n 3, 1) := by decide +kernel
theorem dL_law_310 : decode cL_law 310 = .ok (.iconst 2, 1) := by decide +kernel
theorem dL_law_311 : decode cL_law 311 = .ok (.iadd, 1) := by decide +kernel
theorem dL_law_312 : decode cL_law 312 = .ok (.iaload, 1) := by decide +kernel
theorem dL_law_313 : decode cL_law 313 = .ok (.aload_n 0, 1) := by decide +kernel
theorem dL_law_314 : decode cL_law 314 = .ok (.iload_n 3, 1) := by decide +kernel
theorem dL_law_315 : decode cL_law 315 = .ok (.iconst 3, 1) := by decide +kernel
theorem dL_law_316 : decode cL_law 316 = .ok (.iadd, 1) := by decide +kernel
theorem dL_law_317 : decode cL_law 317 = .ok (.iaload, 1) := by decide +kernel
theorem dL_law_318 : decode cL_law 318 = .ok (.invokevirtual 22, 3) := by decide +kernel
theorem dL_law_321 : decode cL_law 321 = .ok (.if_icmp .eq 1231, 3) := by decide +kernel
theorem dL_law_324 : decode cL_law 324 = .ok (.iconst 0, 1) := by decide +kernel
theorem dL_law_325 : decode cL_law 325 = .ok (.ireturn, 1) := by decide +kernel
theorem dL_law_326 : decode cL_law 326 = .ok (.aload_n 1, 1) := by decide +kernel
theorem dL_law_327 : decode cL_law 327 = .ok (.aload_n 0, 1) := by decide +kernel
theorem dL_law_328 : decode cL_law 328 = .ok (.iload_n 3, 1) := by decide +kernel
theorem dL_law_329 : decode cL_law 329 = .ok (.iconst 1, 1) := by decide +kernel
theorem dL_law_330 : decode cL_law 330 = .ok (.iadd, 1) := by decide +kernel
theorem dL_law_331 : decode cL_law 331 = .ok (.iaload, 1) := by decide +kernel
theorem dL_law_332 : decode cL_law 332 = .ok (.aload_n 0, 1) := by decide +kernel
theorem dL_law_333 : decode cL_law 333 = .ok (.iload_n 3, 1) := by decide +kernel
theorem dL_law_334 : decode cL_law 334 = .ok (.iconst 2, 1) := by decide +kernel
theorem dL_law_335 : decode cL_law 335 = .ok (.iadd, 1) := by decide +kernel
theorem dL_law_336 : decode cL_law 336 = .ok (.iaload, 1) := by decide +kernel
theorem dL_law_337 : decode cL_law 337 = .ok (.aload_n 0, 1) := by decide +kernel
theorem dL_law_338 : decode cL_law 338 = .ok (.iload_n 3, 1) := by decide +kernel
theorem dL_law_339 : decode cL_law 339 = .ok (.iconst 3, 1) := by decide +kernel
theorem dL_law_340 : decode cL_law 340 = .ok (.iadd, 1) := by decide +kernel
theorem dL_law_341 : decode cL_law 341 = .ok (.iaload, 1) := by decide +kernel
theorem dL_law_342 : decode cL_law 342 = .ok (.aload_n 0, 1) := by decide +kernel
theorem dL_law_343 : decode cL_law 343 = .ok (.iload_n 3, 1) := by decide +kernel
theorem dL_law_344 : decode cL_law 344 = .ok (.iconst 4, 1) := by decide +kernel
theorem dL_law_345 : decode cL_law 345 = .ok (.iadd, 1) := by decide +kernel
theorem dL_law_346 : decode cL_law 346 = .ok (.iaload, 1) := by decide +kernel
theorem dL_law_347 : decode cL_law 347 = .ok (.invokevirtual 23, 3) := by decide +kernel
theorem dL_law_350 : decode cL_law 350 = .ok (.aload_n 2, 1) := by decide +kernel
theorem dL_law_351 : decode cL_law 351 = .ok (.aload_n 0, 1) := by decide +kernel
theorem dL_law_352 : decode cL_law 352 = .ok (.iload_n 3, 1) := by decide +kernel
theorem dL_law_353 : decode cL_law 353 = .ok (.iconst 1, 1) := by decide +kernel
theorem dL_law_354 : decode cL_law 354 = .ok (.iadd, 1) := by decide +kernel
theorem dL_law_355 : decode cL_law 355 = .ok (.iaload, 1) := by decide +kernel
theorem dL_law_356 : decode cL_law 356 = .ok (.aload_n 0, 1) := by decide +kernel
theorem dL_law_357 : decode cL_law 357 = .ok (.iload_n 3, 1) := by decide +kernel
theorem dL_law_358 : decode cL_law 358 = .ok (.iconst 2, 1) := by decide +kernel
theorem dL_law_359 : decode cL_law 359 = .ok (.iadd, 1) := by decide +kernel
theorem dL_law_360 : decode cL_law 360 = .ok (.iaload, 1) := by decide +kernel
theorem dL_law_361 : decode cL_law 361 = .ok (.aload_n 0, 1) := by decide +kernel
theorem dL_law_362 : decode cL_law 362 = .ok (.iload_n 3, 1) := by decide +kernel
theorem dL_law_363 : decode cL_law 363 = .ok (.iconst 3, 1) := by decide +kernel
theorem dL_law_364 : decode cL_law 364 = .ok (.iadd, 1) := by decide +kernel
theorem dL_law_365 : decode cL_law 365 = .ok (.iaload, 1) := by decide +kernel
theorem dL_law_366 : decode cL_law 366 = .ok (.aload_n 0, 1) := by decide +kernel
theorem dL_law_367 : decode cL_law 367 = .ok (.iload_n 3, 1) := by decide +kernel
theorem dL_law_368 : decode cL_law 368 = .ok (.iconst 4, 1) := by decide +kernel
theorem dL_law_369 : decode cL_law 369 = .ok (.iadd, 1) := by decide +kernel
theorem dL_law_370 : decode cL_law 370 = .ok (.iaload, 1) := by decide +kernel
theorem dL_law_371 : decode cL_law 371 = .ok (.invokevirtual 27, 3) := by decide +kernel
theorem dL_law_374 : decode cL_law 374 = .ok (.if_icmp .eq 1178, 3) := by decide +kernel
theorem dL_law_377 : decode cL_law 377 = .ok (.iconst 0, 1) := by decide +kernel
theorem dL_law_378 : decode cL_law 378 = .ok (.ireturn, 1) := by decide +kernel
theorem dL_law_379 : decode cL_law 379 = .ok (.aload_n 1, 1) := by decide +kernel
theorem dL_law_380 : decode cL_law 380 = .ok (.aload_n 0, 1) := by decide +kernel
theorem dL_law_381 : decode cL_law 381 = .ok (.iload_n 3, 1) := by decide +kernel
theorem dL_law_382 : decode cL_law 382 = .ok (.iconst 1, 1) := by decide +kernel
theorem dL_law_383 : decode cL_law 383 = .ok (.iadd, 1) := by decide +kernel
theorem dL_law_384 : decode cL_law 384 = .ok (.iaload, 1) := by decide +kernel
theorem dL_law_385 : decode cL_law 385 = .ok (.invokevirtual 28, 3) := by decide +kernel
theorem dL_law_388 : decode cL_law 388 = .ok (.aload_n 2, 1) := by decide +kernel
theorem dL_law_389 : decode cL_law 389 = .ok (.aload_n 0, 1) := by decide +kernel
theorem dL_law_390 : decode cL_law 390 = .ok (.iload_n 3, 1) := by decide +kernel
theorem dL_law_391 : decode cL_law 391 = .ok (.iconst 1, 1) := by decide +kernel
theorem dL_law_392 : decode cL_law 392 = .ok (.iadd, 1) := by decide +kernel
theorem dL_law_393 : decode cL_law 393 = .ok (.iaload, 1) := by decide +kernel
theorem dL_law_394 : decode cL_law 394 = .ok (.invokevirtual 32, 3) := by decide +kernel
theorem dL_law_397 : decode cL_law 397 = .ok (.if_icmp .eq 1155, 3) := by decide +kernel
theorem dL_law_400 : decode cL_law 400 = .ok (.iconst 0, 1) := by decide +kernel
theorem dL_law_401 : decode cL_law 401 = .ok (.ireturn, 1) := by decide +kernel
theorem dL_law_402 : decode cL_law 402 = .ok (.aload_n 1, 1) := by decide +kernel
theorem dL_law_403 : decode cL_law 403 = .ok (.aload_n 0, 1) := by decide +kernel
theorem dL_law_404 : decode cL_law 404 = .ok (.iload_n 3, 1) := by decide +kernel
theorem dL_law_405 : decode cL_law 405 = .ok (.iconst 1, 1) := by decide +kernel
theorem dL_law_406 : decode cL_law 406 = .ok (.iadd, 1) := by decide +kernel
theorem dL_law_407 : decode cL_law 407 = .ok (.iaload, 1) := by decide +kernel
theorem dL_law_408 : decode cL_law 408 = .ok (.aload_n 0, 1) := by decide +kernel
theorem dL_law_409 : decode cL_law 409 = .ok (.iload_n 3, 1) := by decide +kernel
theorem dL_law_410 : decode cL_law 410 = .ok (.iconst 2, 1) := by decide +kernel
theorem dL_law_411 : decode cL_law 411 = .ok (.iadd, 1) := by decide +kernel
theorem dL_law_412 : decode cL_law 412 = .ok (.iaload, 1) := by decide +kernel
theorem dL_law_413 : decode cL_law 413 = .ok (.invokevirtual 33, 3) := by decide +kernel
theorem dL_law_416 : decode cL_law 416 = .ok (.aload_n 2, 1) := by decide +kernel
theorem dL_law_417 : decode cL_law 417 = .ok (.aload_n 0, 1) := by decide +kernel
theorem dL_law_418 : decode cL_law 418 = .ok (.iload_n 3, 1) := by decide +kernel
theorem dL_law_419 : decode cL_law 419 = .ok (.iconst 1, 1) := by decide +kernel
theorem dL_law_420 : decode cL_law 420 = .ok (.iadd, 1) := by decide +kernel
theorem dL_law_421 : decode cL_law 421 = .ok (.iaload, 1) := by decide +kernel
theorem dL_law_422 : decode cL_law 422 = .ok (.aload_n 0, 1) := by decide +kernel
theorem dL_law_423 : decode cL_law 423 = .ok (.iload_n 3, 1) := by decide +kernel
theorem dL_law_424 : decode cL_law 424 = .ok (.iconst 2, 1) := by decide +kernel
theorem dL_law_425 : decode cL_law 425 = .ok (.iadd, 1) := by decide +kernel
theorem dL_law_426 : decode cL_law 426 = .ok (.iaload, 1) := by decide +kernel
theorem dL_law_427 : decode cL_law 427 = .ok (.invokevirtual 37, 3) := by decide +kernel
theorem dL_law_430 : decode cL_law 430 = .ok (.if_icmp .eq 1122, 3) := by decide +kernel
theorem dL_law_433 : decode cL_law 433 = .ok (.iconst 0, 1) := by decide +kernel
theorem dL_law_434 : decode cL_law 434 = .ok (.ireturn, 1) := by decide +kernel
theorem dL_law_435 : decode cL_law 435 = .ok (.aload_n 1, 1) := by decide +kernel
theorem dL_law_436 : decode cL_law 436 = .ok (.aload_n 0, 1) := by decide +kernel
theorem dL_law_437 : decode cL_law 437 = .ok (.iload_n 3, 1) := by decide +kernel
theorem dL_law_438 : decode cL_law 438 = .ok (.iconst 1, 1) := by decide +kernel
theorem dL_law_439 : decode cL_law 439 = .ok (.iadd, 1) := by decide +kernel
theorem dL_law_440 : decode cL_law 440 = .ok (.iaload, 1) := by decide +kernel
theorem dL_law_441 : decode cL_law 441 = .ok (.invokevirtual 38, 3) := by decide +kernel
theorem dL_law_444 : decode cL_law 444 = .ok (.aload_n 2, 1) := by decide +kernel
theorem dL_law_445 : decode cL_law 445 = .ok (.aload_n 0, 1) := by decide +kernel
theorem dL_law_446 : decode cL_law 446 = .ok (.iload_n 3, 1) := by decide +kernel
theorem dL_law_447 : decode cL_law 447 = .ok (.iconst 1, 1) := by decide +kernel
theorem dL_law_448 : decode cL_law 448 = .ok (.iadd, 1) := by decide +kernel
theorem dL_law_449 : decode cL_law 449 = .ok (.iaload, 1) := by decide +kernel
theorem dL_law_450 : decode cL_law 450 = .ok (.invokevirtual 41, 3) := by decide +kernel
theorem dL_law_453 : decode cL_law 453 = .ok (.if_icmp .eq 1099, 3) := by decide +kernel
theorem dL_law_456 : decode cL_law 456 = .ok (.iconst 0, 1) := by decide +kernel
theorem dL_law_457 : decode cL_law 457 = .ok (.ireturn, 1) := by decide +kernel
theorem dL_law_458 : decode cL_law 458 = .ok (.aload_n 1, 1) := by decide +kernel
theorem dL_law_459 : decode cL_law 459 = .ok (.aload_n 0, 1) := by decide +kernel
theorem dL_law_460 : decode cL_law 460 = .ok (.iload_n 3, 1) := by decide +kernel
theorem dL_law_461 : decode cL_law 461 = .ok (.iconst 1, 1) := by decide +kernel
theorem dL_law_462 : decode cL_law 462 = .ok (.iadd, 1) := by decide +kernel
theorem dL_law_463 : decode cL_law 463 = .ok (.iaload, 1) := by decide +kernel
theorem dL_law_464 : decode cL_law 464 = .ok (.aload_n 0, 1) := by decide +kernel
theorem dL_law_465 : decode cL_law 465 = .ok (.iload_n 3, 1) := by decide +kernel
theorem dL_law_466 : decode cL_law 466 = .ok (.iconst 2, 1) := by decide +kernel
theorem dL_law_467 : decode cL_law 467 = .ok (.iadd, 1) := by decide +kernel
theorem dL_law_468 : decode cL_law 468 = .ok (.iaload, 1) := by decide +kernel
theorem dL_law_469 : decode cL_law 469 = .ok (.aload_n 0, 1) := by decide +kernel
theorem dL_law_470 : decode cL_law 470 = .ok (.iload_n 3, 1) := by decide +kernel
theorem dL_law_471 : decode cL_law 471 = .ok (.iconst 3, 1) := by decide +kernel
theorem dL_law_472 : decode cL_law 472 = .ok (.iadd, 1) := by decide +kernel
theorem dL_law_473 : decode cL_law 473 = .ok (.iaload, 1) := by decide +kernel
theorem dL_law_474 : decode cL_law 474 = .ok (.invokevirtual 42, 3) := by decide +kernel
theorem dL_law_477 : decode cL_law 477 = .ok (.aload_n 2, 1) := by decide +kernel
theorem dL_law_478 : decode cL_law 478 = .ok (.aload_n 0, 1) := by decide +kernel
theorem dL_law_479 : decode cL_law 479 = .ok (.iload_n 3, 1) := by decide +kernel
theorem dL_law_480 : decode cL_law 480 = .ok (.iconst 1, 1) := by decide +kernel
theorem dL_law_481 : decode cL_law 481 = .ok (.iadd, 1) := by decide +kernel
theorem dL_law_482 : decode cL_law 482 = .ok (.iaload, 1) := by decide +kernel
theorem dL_law_483 : decode cL_law 483 = .ok (.aload_n 0, 1) := by decide +kernel
theorem dL_law_484 : decode cL_law 484 = .ok (.iload_n 3, 1) := by decide +kernel
theorem dL_law_485 : decode cL_law 485 = .ok (.iconst 2, 1) := by decide +kernel
theorem dL_law_486 : decode cL_law 486 = .ok (.iadd, 1) := by decide +kernel
theorem dL_law_487 : decode cL_law 487 = .ok (.iaload, 1) := by decide +kernel
theorem dL_law_488 : decode cL_law 488 = .ok (.aload_n 0, 1) := by decide +kernel
theorem dL_law_489 : decode cL_law 489 = .ok (.iload_n 3, 1) := by decide +kernel
theorem dL_law_490 : decode cL_law 490 = .ok (.iconst 3, 1) := by decide +kernel
theorem dL_law_491 : decode cL_law 491 = .ok (.iadd, 1) := by decide +kernel
theorem dL_law_492 : decode cL_law 492 = .ok (.iaload, 1) := by decide +kernel
theorem dL_law_493 : decode cL_law 493 = .ok (.invokevirtual 45, 3) := by decide +kernel
theorem dL_law_496 : decode cL_law 496 = .ok (.if_icmp .eq 1056, 3) := by decide +kernel
theorem dL_law_499 : decode cL_law 499 = .ok (.iconst 0, 1) := by decide +kernel
theorem dL_law_500 : decode cL_law 500 = .ok (.ireturn, 1) := by decide +kernel
theorem dL_law_501 : decode cL_law 501 = .ok (.aload_n 1, 1) := by decide +kernel
theorem dL_law_502 : decode cL_law 502 = .ok (.invokevirtual 46, 3) := by decide +kernel
theorem dL_law_505 : decode cL_law 505 = .ok (.aload_n 2, 1) := by decide +kernel
theorem dL_law_506 : decode cL_law 506 = .ok (.invokevirtual 50, 3) := by decide +kernel
theorem dL_law_509 : decode cL_law 509 = .ok (.if_icmp .eq 1043, 3) := by decide +kernel
theorem dL_law_512 : decode cL_law 512 = .ok (.iconst 0, 1) := by decide +kernel
theorem dL_law_513 : decode cL_law 513 = .ok (.ireturn, 1) := by decide +kernel
theorem dL_law_514 : decode cL_law 514 = .ok (.aload_n 1, 1) := by decide +kernel
theorem dL_law_515 : decode cL_law 515 = .ok (.aload_n 0, 1) := by decide +kernel
theorem dL_law_516 : decode cL_law 516 = .ok (.iload_n 3, 1) := by decide +kernel
theorem dL_law_517 : decode cL_law 517 = .ok (.iconst 1, 1) := by decide +kernel
theorem dL_law_518 : decode cL_law 518 = .ok (.iadd, 1) := by decide +kernel
theorem dL_law_519 : decode cL_law 519 = .ok (.iaload, 1) := by decide +kernel
theorem dL_law_520 : decode cL_law 520 = .ok (.aload_n 0, 1) := by decide +kernel
theorem dL_law_521 : decode cL_law 521 = .ok (.iload_n 3, 1) := by decide +kernel
theorem dL_law_522 : decode cL_law 522 = .ok (.iconst 2, 1) := by decide +kernel
theorem dL_law_523 : decode cL_law 523 = .ok (.iadd, 1) := by decide +kernel
theorem dL_law_524 : decode cL_law 524 = .ok (.iaload, 1) := by decide +kernel
theorem dL_law_525 : decode cL_law 525 = .ok (.invokevirtual 51, 3) := by decide +kernel
theorem dL_law_528 : decode cL_law 528 = .ok (.aload_n 2, 1) := by decide +kernel
theorem dL_law_529 : decode cL_law 529 = .ok (.aload_n 0, 1) := by decide +kernel
theorem dL_law_530 : decode cL_law 530 = .ok (.iload_n 3, 1) := by decide +kernel
theorem dL_law_531 : decode cL_law 531 = .ok (.iconst 1, 1) := by decide +kernel
theorem dL_law_532 : decode cL_law 532 = .ok (.iadd, 1) := by decide +kernel
theorem dL_law_533 : decode cL_law 533 = .ok (.iaload, 1) := by decide +kernel
theorem dL_law_534 : decode cL_law 534 = .ok (.aload_n 0, 1) := by decide +kernel
theorem dL_law_535 : decode cL_law 535 = .ok (.iload_n 3, 1) := by decide +kernel
theorem dL_law_536 : decode cL_law 536 = .ok (.iconst 2, 1) := by decide +kernel
theorem dL_law_537 : decode cL_law 537 = .ok (.iadd, 1) := by decide +kernel
theorem dL_law_538 : decode cL_law 538 = .ok (.iaload, 1) := by decide +kernel
theorem dL_law_539 : decode cL_law 539 = .ok (.invokevirtual 54, 3) := by decide +kernel
theorem dL_law_542 : decode cL_law 542 = .ok (.if_icmp .eq 1010, 3) := by decide +kernel
theorem dL_law_545 : decode cL_law 545 = .ok (.iconst 0, 1) := by decide +kernel
theorem dL_law_546 : decode cL_law 546 = .ok (.ireturn, 1) := by decide +kernel
theorem dL_law_547 : decode cL_law 547 = .ok (.aload_n 1, 1) := by decide +kernel
theorem dL_law_548 : decode cL_law 548 = .ok (.aload_n 0, 1) := by decide +kernel
theorem dL_law_549 : decode cL_law 549 = .ok (.iload_n 3, 1) := by decide +kernel
theorem dL_law_550 : decode cL_law 550 = .ok (.iconst 1, 1) := by decide +kernel
theorem dL_law_551 : decode cL_law 551 = .ok (.iadd, 1) := by decide +kernel
theorem dL_law_552 : decode cL_law 552 = .ok (.iaload, 1) := by decide +kernel
theorem dL_law_553 : decode cL_law 553 = .ok (.aload_n 0, 1) := by decide +kernel
theorem dL_law_554 : decode cL_law 554 = .ok (.iload_n 3, 1) := by decide +kernel
theorem dL_law_555 : decode cL_law 555 = .ok (.iconst 2, 1) := by decide +kernel
theorem dL_law_556 : decode cL_law 556 = .ok (.iadd, 1) := by decide +kernel
theorem dL_law_557 : decode cL_law 557 = .ok (.iaload, 1) := by decide +kernel
theorem dL_law_558 : decode cL_law 558 = .ok (.aload_n 0, 1) := by decide +kernel
theorem dL_law_559 : decode cL_law 559 = .ok (.iload_n 3, 1) := by decide +kernel
theorem dL_law_560 : decode cL_law 560 = .ok (.iconst 3, 1) := by decide +kernel
theorem dL_law_561 : decode cL_law 561 = .ok (.iadd, 1) := by decide +kernel
theorem dL_law_562 : decode cL_law 562 = .ok (.iaload, 1) := by decide +kernel
theorem dL_law_563 : decode cL_law 563 = .ok (.invokevirtual 55, 3) := by decide +kernel
theorem dL_law_566 : decode cL_law 566 = .ok (.aload_n 2, 1) := by decide +kernel
theorem dL_law_567 : decode cL_law 567 = .ok (.aload_n 0, 1) := by decide +kernel
theorem dL_law_568 : decode cL_law 568 = .ok (.iload_n 3, 1) := by decide +kernel
theorem dL_law_569 : decode cL_law 569 = .ok (.iconst 1, 1) := by decide +kernel
theorem dL_law_570 : decode cL_law 570 = .ok (.iadd, 1) := by decide +kernel
theorem dL_law_571 : decode cL_law 571 = .ok (.iaload, 1) := by decide +kernel
theorem dL_law_572 : decode cL_law 572 = .ok (.aload_n 0, 1) := by decide +kernel
theorem dL_law_573 : decode cL_law 573 = .ok (.iload_n 3, 1) := by decide +kernel
theorem dL_law_574 : decode cL_law 574 = .ok (.iconst 2, 1) := by decide +kernel
theorem dL_law_575 : decode cL_law 575 = .ok (.iadd, 1) := by decide +kernel
theorem dL_law_576 : decode cL_law 576 = .ok (.iaload, 1) := by decide +kernel
theorem dL_law_577 : decode cL_law 577 = .ok (.aload_n 0, 1) := by decide +kernel
theorem dL_law_578 : decode cL_law 578 = .ok (.iload_n 3, 1) := by decide +kernel
theorem dL_law_579 : decode cL_law 579 = .ok (.iconst 3, 1) := by decide +kernel
theorem dL_law_580 : decode cL_law 580 = .ok (.iadd, 1) := by decide +kernel
theorem dL_law_581 : decode cL_law 581 = .ok (.iaload, 1) := by decide +kernel
theorem dL_law_582 : decode cL_law 582 = .ok (.invokevirtual 58, 3) := by decide +kernel
theorem dL_law_585 : decode cL_law 585 = .ok (.if_icmp .eq 967, 3) := by decide +kernel
theorem dL_law_588 : decode cL_law 588 = .ok (.iconst 0, 1) := by decide +kernel
theorem dL_law_589 : decode cL_law 589 = .ok (.ireturn, 1) := by decide +kernel
theorem dL_law_590 : decode cL_law 590 = .ok (.aload_n 1, 1) := by decide +kernel
theorem dL_law_591 : decode cL_law 591 = .ok (.aload_n 0, 1) := by decide +kernel
theorem dL_law_592 : decode cL_law 592 = .ok (.iload_n 3, 1) := by decide +kernel
theorem dL_law_593 : decode cL_law 593 = .ok (.iconst 1, 1) := by decide +kernel
theorem dL_law_594 : decode cL_law 594 = .ok (.iadd, 1) := by decide +kernel
theorem dL_law_595 : decode cL_law 595 = .ok (.iaload, 1) := by decide +kernel
theorem dL_law_596 : decode cL_law 596 = .ok (.aload_n 0, 1) := by decide +kernel
theorem dL_law_597 : decode cL_law 597 = .ok (.iload_n 3, 1) := by decide +kernel
theorem dL_law_598 : decode cL_law 598 = .ok (.iconst 2, 1) := by decide +kernel
theorem dL_law_599 : decode cL_law 599 = .ok (.iadd, 1) := by decide +kernel
theorem dL_law_600 : decode cL_law 600 = .ok (.iaload, 1) := by decide +kernel
theorem dL_law_601 : decode cL_law 601 = .ok (.invokevirtual 59, 3) := by decide +kernel
theorem dL_law_604 : decode cL_law 604 = .ok (.aload_n 2, 1) := by decide +kernel
theorem dL_law_605 : decode cL_law 605 = .ok (.aload_n 0, 1) := by decide +kernel
theorem dL_law_606 : decode cL_law 606 = .ok (.iload_n 3, 1) := by decide +kernel
theorem dL_law_607 : decode cL_law 607 = .ok (.iconst 1, 1) := by decide +kernel
theorem dL_law_608 : decode cL_law 608 = .ok (.iadd, 1) := by decide +kernel
theorem dL_law_609 : decode cL_law 609 = .ok (.iaload, 1) := by decide +kernel
theorem dL_law_610 : decode cL_law 610 = .ok (.aload_n 0, 1) := by decide +kernel
theorem dL_law_611 : decode cL_law 611 = .ok (.iload_n 3, 1) := by decide +kernel
theorem dL_law_612 : decode cL_law 612 = .ok (.iconst 2, 1) := by decide +kernel
theorem dL_law_613 : decode cL_law 613 = .ok (.iadd, 1) := by decide +kernel
theorem dL_law_614 : decode cL_law 614 = .ok (.iaload, 1) := by decide +kernel
theorem dL_law_615 : decode cL_law 615 = .ok (.invokevirtual 62, 3) := by decide +kernel
theorem dL_law_618 : decode cL_law 618 = .ok (.if_icmp .eq 934, 3) := by decide +kernel
theorem dL_law_621 : decode cL_law 621 = .ok (.iconst 0, 1) := by decide +kernel
theorem dL_law_622 : decode cL_law 622 = .ok (.ireturn, 1) := by decide +kernel
theorem dL_law_623 : decode cL_law 623 = .ok (.aload_n 1, 1) := by decide +kernel
theorem dL_law_624 : decode cL_law 624 = .ok (.aload_n 0, 1) := by decide +kernel
theorem dL_law_625 : decode cL_law 625 = .ok (.iload_n 3, 1) := by decide +kernel
theorem dL_law_626 : decode cL_law 626 = .ok (.iconst 1, 1) := by decide +kernel
theorem dL_law_627 : decode cL_law 627 = .ok (.iadd, 1) := by decide +kernel
theorem dL_law_628 : decode cL_law 628 = .ok (.iaload, 1) := by decide +kernel
theorem dL_law_629 : decode cL_law 629 = .ok (.aload_n 0, 1) := by decide +kernel
theorem dL_law_630 : decode cL_law 630 = .ok (.iload_n 3, 1) := by decide +kernel
theorem dL_law_631 : decode cL_law 631 = .ok (.iconst 2, 1) := by decide +kernel
theorem dL_law_632 : decode cL_law 632 = .ok (.iadd, 1) := by decide +kernel
theorem dL_law_633 : decode cL_law 633 = .ok (.iaload, 1) := by decide +kernel
theorem dL_law_634 : decode cL_law 634 = .ok (.invokevirtual 63, 3) := by decide +kernel
theorem dL_law_637 : decode cL_law 637 = .ok (.aload_n 2, 1) := by decide +kernel
theorem dL_law_638 : decode cL_law 638 = .ok (.aload_n 0, 1) := by decide +kernel
theorem dL_law_639 : decode cL_law 639 = .ok (.iload_n 3, 1) := by decide +kernel
theorem dL_law_640 : decode cL_law 640 = .ok (.iconst 1, 1) := by decide +kernel
theorem dL_law_641 : decode cL_law 641 = .ok (.iadd, 1) := by decide +kernel
theorem dL_law_642 : decode cL_law 642 = .ok (.iaload, 1) := by decide +kernel
theorem dL_law_643 : decode cL_law 643 = .ok (.aload_n 0, 1) := by decide +kernel
theorem dL_law_644 : decode cL_law 644 = .ok (.iload_n 3, 1) := by decide +kernel
theorem dL_law_645 : decode cL_law 645 = .ok (.iconst 2, 1) := by decide +kernel
theorem dL_law_646 : decode cL_law 646 = .ok (.iadd, 1) := by decide +kernel
theorem dL_law_647 : decode cL_law 647 = .ok (.iaload, 1) := by decide +kernel
theorem dL_law_648 : decode cL_law 648 = .ok (.invokevirtual 66, 3) := by decide +kernel
theorem dL_law_651 : decode cL_law 651 = .ok (.if_icmp .eq 901, 3) := by decide +kernel
theorem dL_law_654 : decode cL_law 654 = .ok (.iconst 0, 1) := by decide +kernel
theorem dL_law_655 : decode cL_law 655 = .ok (.ireturn, 1) := by decide +kernel
theorem dL_law_656 : decode cL_law 656 = .ok (.aload_n 1, 1) := by decide +kernel
theorem dL_law_657 : decode cL_law 657 = .ok (.aload_n 0, 1) := by decide +kernel
theorem dL_law_658 : decode cL_law 658 = .ok (.iload_n 3, 1) := by decide +kernel
theorem dL_law_659 : decode cL_law 659 = .ok (.iconst 1, 1) := by decide +kernel
theorem dL_law_660 : decode cL_law 660 = .ok (.iadd, 1) := by decide +kernel
theorem dL_law_661 : decode cL_law 661 = .ok (.iaload, 1) := by decide +kernel
theorem dL_law_662 : decode cL_law 662 = .ok (.aload_n 0, 1) := by decide +kernel
theorem dL_law_663 : decode cL_law 663 = .ok (.iload_n 3, 1) := by decide +kernel
theorem dL_law_664 : decode cL_law 664 = .ok (.iconst 2, 1) := by decide +kernel
theorem dL_law_665 : decode cL_law 665 = .ok (.iadd, 1) := by decide +kernel
theorem dL_law_666 : decode cL_law 666 = .ok (.iaload, 1) := by decide +kernel
theorem dL_law_667 : decode cL_law 667 = .ok (.aload_n 0, 1) := by decide +kernel
theorem dL_law_668 : decode cL_law 668 = .ok (.iload_n 3, 1) := by decide +kernel
theorem dL_law_669 : decode cL_law 669 = .ok (.iconst 3, 1) := by decide +kernel
theorem dL_law_670 : decode cL_law 670 = .ok (.iadd, 1) := by decide +kernel
theorem dL_law_671 : decode cL_law 671 = .ok (.iaload, 1) := by decide +kernel
theorem dL_law_672 : decode cL_law 672 = .ok (.invokevirtual 67, 3) := by decide +kernel
theorem dL_law_675 : decode cL_law 675 = .ok (.aload_n 2, 1) := by decide +kernel
theorem dL_law_676 : decode cL_law 676 = .ok (.aload_n 0, 1) := by decide +kernel
theorem dL_law_677 : decode cL_law 677 = .ok (.iload_n 3, 1) := by decide +kernel
theorem dL_law_678 : decode cL_law 678 = .ok (.iconst 1, 1) := by decide +kernel
theorem dL_law_679 : decode cL_law 679 = .ok (.iadd, 1) := by decide +kernel
theorem dL_law_680 : decode cL_law 680 = .ok (.iaload, 1) := by decide +kernel
theorem dL_law_681 : decode cL_law 681 = .ok (.aload_n 0, 1) := by decide +kernel
theorem dL_law_682 : decode cL_law 682 = .ok (.iload_n 3, 1) := by decide +kernel
theorem dL_law_683 : decode cL_law 683 = .ok (.iconst 2, 1) := by decide +kernel
theorem dL_law_684 : decode cL_law 684 = .ok (.iadd, 1) := by decide +kernel
theorem dL_law_685 : decode cL_law 685 = .ok (.iaload, 1) := by decide +kernel
theorem dL_law_686 : decode cL_law 686 = .ok (.aload_n 0, 1) := by decide +kernel
theorem dL_law_687 : decode cL_law 687 = .ok (.iload_n 3, 1) := by decide +kernel
theorem dL_law_688 : decode cL_law 688 = .ok (.iconst 3, 1) := by decide +kernel
theorem dL_law_689 : decode cL_law 689 = .ok (.iadd, 1) := by decide +kernel
theorem dL_law_690 : decode cL_law 690 = .ok (.iaload, 1) := by decide +kernel
theorem dL_law_691 : decode cL_law 691 = .ok (.invokevirtual 70, 3) := by decide +kernel
theorem dL_law_694 : decode cL_law 694 = .ok (.if_icmp .eq 858, 3) := by decide +kernel
theorem dL_law_697 : decode cL_law 697 = .ok (.iconst 0, 1) := by decide +kernel
theorem dL_law_698 : decode cL_law 698 = .ok (.ireturn, 1) := by decide +kernel
theorem dL_law_699 : decode cL_law 699 = .ok (.aload_n 1, 1) := by decide +kernel
theorem dL_law_700 : decode cL_law 700 = .ok (.aload_n 0, 1) := by decide +kernel
theorem dL_law_701 : decode cL_law 701 = .ok (.iload_n 3, 1) := by decide +kernel
theorem dL_law_702 : decode cL_law 702 = .ok (.iconst 1, 1) := by decide +kernel
theorem dL_law_703 : decode cL_law 703 = .ok (.iadd, 1) := by decide +kernel
theorem dL_law_704 : decode cL_law 704 = .ok (.iaload, 1) := by decide +kernel
theorem dL_law_705 : decode cL_law 705 = .ok (.aload_n 0, 1) := by decide +kernel
theorem dL_law_706 : decode cL_law 706 = .ok (.iload_n 3, 1) := by decide +kernel
theorem dL_law_707 : decode cL_law 707 = .ok (.iconst 2, 1) := by decide +kernel
theorem dL_law_708 : decode cL_law 708 = .ok (.iadd, 1) := by decide +kernel
theorem dL_law_709 : decode cL_law 709 = .ok (.iaload, 1) := by decide +kernel
theorem dL_law_710 : decode cL_law 710 = .ok (.invokevirtual 71, 3) := by decide +kernel
theorem dL_law_713 : decode cL_law 713 = .ok (.aload_n 2, 1) := by decide +kernel
theorem dL_law_714 : decode cL_law 714 = .ok (.aload_n 0, 1) := by decide +kernel
theorem dL_law_715 : decode cL_law 715 = .ok (.iload_n 3, 1) := by decide +kernel
theorem dL_law_716 : decode cL_law 716 = .ok (.iconst 1, 1) := by decide +kernel
theorem dL_law_717 : decode cL_law 717 = .ok (.iadd, 1) := by decide +kernel
theorem dL_law_718 : decode cL_law 718 = .ok (.iaload, 1) := by decide +kernel
theorem dL_law_719 : decode cL_law 719 = .ok (.aload_n 0, 1) := by decide +kernel
theorem dL_law_720 : decode cL_law 720 = .ok (.iload_n 3, 1) := by decide +kernel
theorem dL_law_721 : decode cL_law 721 = .ok (.iconst 2, 1) := by decide +kernel
theorem dL_law_722 : decode cL_law 722 = .ok (.iadd, 1) := by decide +kernel
theorem dL_law_723 : decode cL_law 723 = .ok (.iaload, 1) := by decide +kernel
theorem dL_law_724 : decode cL_law 724 = .ok (.invokevirtual 74, 3) := by decide +kernel
theorem dL_law_727 : decode cL_law 727 = .ok (.if_icmp .eq 825, 3) := by decide +kernel
theorem dL_law_730 : decode cL_law 730 = .ok (.iconst 0, 1) := by decide +kernel
theorem dL_law_731 : decode cL_law 731 = .ok (.ireturn, 1) := by decide +kernel
theorem dL_law_732 : decode cL_law 732 = .ok (.aload_n 1, 1) := by decide +kernel
theorem dL_law_733 : decode cL_law 733 = .ok (.aload_n 0, 1) := by decide +kernel
theorem dL_law_734 : decode cL_law 734 = .ok (.iload_n 3, 1) := by decide +kernel
theorem dL_law_735 : decode cL_law 735 = .ok (.iconst 1, 1) := by decide +kernel
theorem dL_law_736 : decode cL_law 736 = .ok (.iadd, 1) := by decide +kernel
theorem dL_law_737 : decode cL_law 737 = .ok (.iaload, 1) := by decide +kernel
theorem dL_law_738 : decode cL_law 738 = .ok (.aload_n 0, 1) := by decide +kernel
theorem dL_law_739 : decode cL_law 739 = .ok (.iload_n 3, 1) := by decide +kernel
theorem dL_law_740 : decode cL_law 740 = .ok (.iconst 2, 1) := by decide +kernel
theorem dL_law_741 : decode cL_law 741 = .ok (.iadd, 1) := by decide +kernel
theorem dL_law_742 : decode cL_law 742 = .ok (.iaload, 1) := by decide +kernel
theorem dL_law_743 : decode cL_law 743 = .ok (.aload_n 0, 1) := by decide +kernel
theorem dL_law_744 : decode cL_law 744 = .ok (.iload_n 3, 1) := by decide +kernel
theorem dL_law_745 : decode cL_law 745 = .ok (.iconst 3, 1) := by decide +kernel
theorem dL_law_746 : decode cL_law 746 = .ok (.iadd, 1) := by decide +kernel
theorem dL_law_747 : decode cL_law 747 = .ok (.iaload, 1) := by decide +kernel
theorem dL_law_748 : decode cL_law 748 = .ok (.invokevirtual 75, 3) := by decide +kernel
theorem dL_law_751 : decode cL_law 751 = .ok (.aload_n 2, 1) := by decide +kernel
theorem dL_law_752 : decode cL_law 752 = .ok (.aload_n 0, 1) := by decide +kernel
theorem dL_law_753 : decode cL_law 753 = .ok (.iload_n 3, 1) := by decide +kernel
theorem dL_law_754 : decode cL_law 754 = .ok (.iconst 1, 1) := by decide +kernel
theorem dL_law_755 : decode cL_law 755 = .ok (.iadd, 1) := by decide +kernel
theorem dL_law_756 : decode cL_law 756 = .ok (.iaload, 1) := by decide +kernel
theorem dL_law_757 : decode cL_law 757 = .ok (.aload_n 0, 1) := by decide +kernel
theorem dL_law_758 : decode cL_law 758 = .ok (.iload_n 3, 1) := by decide +kernel
theorem dL_law_759 : decode cL_law 759 = .ok (.iconst 2, 1) := by decide +kernel
theorem dL_law_760 : decode cL_law 760 = .ok (.iadd, 1) := by decide +kernel
theorem dL_law_761 : decode cL_law 761 = .ok (.iaload, 1) := by decide +kernel
theorem dL_law_762 : decode cL_law 762 = .ok (.aload_n 0, 1) := by decide +kernel
theorem dL_law_763 : decode cL_law 763 = .ok (.iload_n 3, 1) := by decide +kernel
theorem dL_law_764 : decode cL_law 764 = .ok (.iconst 3, 1) := by decide +kernel
theorem dL_law_765 : decode cL_law 765 = .ok (.iadd, 1) := by decide +kernel
theorem dL_law_766 : decode cL_law 766 = .ok (.iaload, 1) := by decide +kernel
theorem dL_law_767 : decode cL_law 767 = .ok (.invokevirtual 78, 3) := by decide +kernel
theorem dL_law_770 : decode cL_law 770 = .ok (.if_icmp .eq 782, 3) := by decide +kernel
theorem dL_law_773 : decode cL_law 773 = .ok (.iconst 0, 1) := by decide +kernel
theorem dL_law_774 : decode cL_law 774 = .ok (.ireturn, 1) := by decide +kernel
theorem dL_law_775 : decode cL_law 775 = .ok (.aload_n 1, 1) := by decide +kernel
theorem dL_law_776 : decode cL_law 776 = .ok (.aload_n 0, 1) := by decide +kernel
theorem dL_law_777 : decode cL_law 777 = .ok (.iload_n 3, 1) := by decide +kernel
theorem dL_law_778 : decode cL_law 778 = .ok (.iconst 1, 1) := by decide +kernel
theorem dL_law_779 : decode cL_law 779 = .ok (.iadd, 1) := by decide +kernel
theorem dL_law_780 : decode cL_law 780 = .ok (.iaload, 1) := by decide +kernel
theorem dL_law_781 : decode cL_law 781 = .ok (.aload_n 0, 1) := by decide +kernel
theorem dL_law_782 : decode cL_law 782 = .ok (.iload_n 3, 1) := by decide +kernel
theorem dL_law_783 : decode cL_law 783 = .ok (.iconst 2, 1) := by decide +kernel
theorem dL_law_784 : decode cL_law 784 = .ok (.iadd, 1) := by decide +kernel
theorem dL_law_785 : decode cL_law 785 = .ok (.iaload, 1) := by decide +kernel
theorem dL_law_786 : decode cL_law 786 = .ok (.invokevirtual 79, 3) := by decide +kernel
theorem dL_law_789 : decode cL_law 789 = .ok (.aload_n 2, 1) := by decide +kernel
theorem dL_law_790 : decode cL_law 790 = .ok (.aload_n 0, 1) := by decide +kernel
theorem dL_law_791 : decode cL_law 791 = .ok (.iload_n 3, 1) := by decide +kernel
theorem dL_law_792 : decode cL_law 792 = .ok (.iconst 1, 1) := by decide +kernel
theorem dL_law_793 : decode cL_law 793 = .ok (.iadd, 1) := by decide +kernel
theorem dL_law_794 : decode cL_law 794 = .ok (.iaload, 1) := by decide +kernel
theorem dL_law_795 : decode cL_law 795 = .ok (.aload_n 0, 1) := by decide +kernel
theorem dL_law_796 : decode cL_law 796 = .ok (.iload_n 3, 1) := by decide +kernel
theorem dL_law_797 : decode cL_law 797 = .ok (.iconst 2, 1) := by decide +kernel
theorem dL_law_798 : decode cL_law 798 = .ok (.iadd, 1) := by decide +kernel
theorem dL_law_799 : decode cL_law 799 = .ok (.iaload, 1) := by decide +kernel
theorem dL_law_800 : decode cL_law 800 = .ok (.invokevirtual 82, 3) := by decide +kernel
theorem dL_law_803 : decode cL_law 803 = .ok (.if_icmp .eq 749, 3) := by decide +kernel
theorem dL_law_806 : decode cL_law 806 = .ok (.iconst 0, 1) := by decide +kernel
theorem dL_law_807 : decode cL_law 807 = .ok (.ireturn, 1) := by decide +kernel
theorem dL_law_808 : decode cL_law 808 = .ok (.aload_n 1, 1) := by decide +kernel
theorem dL_law_809 : decode cL_law 809 = .ok (.aload_n 0, 1) := by decide +kernel
theorem dL_law_810 : decode cL_law 810 = .ok (.iload_n 3, 1) := by decide +kernel
theorem dL_law_811 : decode cL_law 811 = .ok (.iconst 1, 1) := by decide +kernel
theorem dL_law_812 : decode cL_law 812 = .ok (.iadd, 1) := by decide +kernel
theorem dL_law_813 : decode cL_law 813 = .ok (.iaload, 1) := by decide +kernel
theorem dL_law_814 : decode cL_law 814 = .ok (.aload_n 0, 1) := by decide +kernel
theorem dL_law_815 : decode cL_law 815 = .ok (.iload_n 3, 1) := by decide +kernel
theorem dL_law_816 : decode cL_law 816 = .ok (.iconst 2, 1) := by decide +kernel
theorem dL_law_817 : decode cL_law 817 = .ok (.iadd, 1) := by decide +kernel
theorem dL_law_818 : decode cL_law 818 = .ok (.iaload, 1) := by decide +kernel
theorem dL_law_819 : decode cL_law 819 = .ok (.aload_n 0, 1) := by decide +kernel
theorem dL_law_820 : decode cL_law 820 = .ok (.iload_n 3, 1) := by decide +kernel
theorem dL_law_821 : decode cL_law 821 = .ok (.iconst 3, 1) := by decide +kernel
theorem dL_law_822 : decode cL_law 822 = .ok (.iadd, 1) := by decide +kernel
theorem dL_law_823 : decode cL_law 823 = .ok (.iaload, 1) := by decide +kernel
theorem dL_law_824 : decode cL_law 824 = .ok (.invokevirtual 83, 3) := by decide +kernel
theorem dL_law_827 : decode cL_law 827 = .ok (.aload_n 2, 1) := by decide +kernel
theorem dL_law_828 : decode cL_law 828 = .ok (.aload_n 0, 1) := by decide +kernel
theorem dL_law_829 : decode cL_law 829 = .ok (.iload_n 3, 1) := by decide +kernel
theorem dL_law_830 : decode cL_law 830 = .ok (.iconst 1, 1) := by decide +kernel
theorem dL_law_831 : decode cL_law 831 = .ok (.iadd, 1) := by decide +kernel
theorem dL_law_832 : decode cL_law 832 = .ok (.iaload, 1) := by decide +kernel
theorem dL_law_833 : decode cL_law 833 = .ok (.aload_n 0, 1) := by decide +kernel
theorem dL_law_834 : decode cL_law 834 = .ok (.iload_n 3, 1) := by decide +kernel
theorem dL_law_835 : decode cL_law 835 = .ok (.iconst 2, 1) := by decide +kernel
theorem dL_law_836 : decode cL_law 836 = .ok (.iadd, 1) := by decide +kernel
theorem dL_law_837 : decode cL_law 837 = .ok (.iaload, 1) := by decide +kernel
theorem dL_law_838 : decode cL_law 838 = .ok (.aload_n 0, 1) := by decide +kernel
theorem dL_law_839 : decode cL_law 839 = .ok (.iload_n 3, 1) := by decide +kernel
theorem dL_law_840 : decode cL_law 840 = .ok (.iconst 3, 1) := by decide +kernel
theorem dL_law_841 : decode cL_law 841 = .ok (.iadd, 1) := by decide +kernel
theorem dL_law_842 : decode cL_law 842 = .ok (.iaload, 1) := by decide +kernel
theorem dL_law_843 : decode cL_law 843 = .ok (.invokevirtual 86, 3) := by decide +kernel
theorem dL_law_846 : decode cL_law 846 = .ok (.if_icmp .eq 706, 3) := by decide +kernel
theorem dL_law_849 : decode cL_law 849 = .ok (.iconst 0, 1) := by decide +kernel
theorem dL_law_850 : decode cL_law 850 = .ok (.ireturn, 1) := by decide +kernel
theorem dL_law_851 : decode cL_law 851 = .ok (.aload_n 1, 1) := by decide +kernel
theorem dL_law_852 : decode cL_law 852 = .ok (.aload_n 0, 1) := by decide +kernel
theorem dL_law_853 : decode cL_law 853 = .ok (.iload_n 3, 1) := by decide +kernel
theorem dL_law_854 : decode cL_law 854 = .ok (.iconst 1, 1) := by decide +kernel
theorem dL_law_855 : decode cL_law 855 = .ok (.iadd, 1) := by decide +kernel
theorem dL_law_856 : decode cL_law 856 = .ok (.iaload, 1) := by decide +kernel
theorem dL_law_857 : decode cL_law 857 = .ok (.aload_n 0, 1) := by decide +kernel
theorem dL_law_858 : decode cL_law 858 = .ok (.iload_n 3, 1) := by decide +kernel
theorem dL_law_859 : decode cL_law 859 = .ok (.iconst 2, 1) := by decide +kernel
theorem dL_law_860 : decode cL_law 860 = .ok (.iadd, 1) := by decide +kernel
theorem dL_law_861 : decode cL_law 861 = .ok (.iaload, 1) := by decide +kernel
theorem dL_law_862 : decode cL_law 862 = .ok (.aload_n 0, 1) := by decide +kernel
theorem dL_law_863 : decode cL_law 863 = .ok (.iload_n 3, 1) := by decide +kernel
theorem dL_law_864 : decode cL_law 864 = .ok (.iconst 3, 1) := by decide +kernel
theorem dL_law_865 : decode cL_law 865 = .ok (.iadd, 1) := by decide +kernel
theorem dL_law_866 : decode cL_law 866 = .ok (.iaload, 1) := by decide +kernel
theorem dL_law_867 : decode cL_law 867 = .ok (.invokevirtual 87, 3) := by decide +kernel
theorem dL_law_870 : decode cL_law 870 = .ok (.aload_n 2, 1) := by decide +kernel
theorem dL_law_871 : decode cL_law 871 = .ok (.aload_n 0, 1) := by decide +kernel
theorem dL_law_872 : decode cL_law 872 = .ok (.iload_n 3, 1) := by decide +kernel
theorem dL_law_873 : decode cL_law 873 = .ok (.iconst 1, 1) := by decide +kernel
theorem dL_law_874 : decode cL_law 874 = .ok (.iadd, 1) := by decide +kernel
theorem dL_law_875 : decode cL_law 875 = .ok (.iaload, 1) := by decide +kernel
theorem dL_law_876 : decode cL_law 876 = .ok (.aload_n 0, 1) := by decide +kernel
theorem dL_law_877 : decode cL_law 877 = .ok (.iload_n 3, 1) := by decide +kernel
theorem dL_law_878 : decode cL_law 878 = .ok (.iconst 2, 1) := by decide +kernel
theorem dL_law_879 : decode cL_law 879 = .ok (.iadd, 1) := by decide +kernel
theorem dL_law_880 : decode cL_law 880 = .ok (.iaload, 1) := by decide +kernel
theorem dL_law_881 : decode cL_law 881 = .ok (.aload_n 0, 1) := by decide +kernel
theorem dL_law_882 : decode cL_law 882 = .ok (.iload_n 3, 1) := by decide +kernel
theorem dL_law_883 : decode cL_law 883 = .ok (.iconst 3, 1) := by decide +kernel
theorem dL_law_884 : decode cL_law 884 = .ok (.iadd, 1) := by decide +kernel
theorem dL_law_885 : decode cL_law 885 = .ok (.iaload, 1) := by decide +kernel
theorem dL_law_886 : decode cL_law 886 = .ok (.invokevirtual 90, 3) := by decide +kernel
theorem dL_law_889 : decode cL_law 889 = .ok (.if_icmp .eq 663, 3) := by decide +kernel
theorem dL_law_892 : decode cL_law 892 = .ok (.iconst 0, 1) := by decide +kernel
theorem dL_law_893 : decode cL_law 893 = .ok (.ireturn, 1) := by decide +kernel
theorem dL_law_894 : decode cL_law 894 = .ok (.aload_n 1, 1) := by decide +kernel
theorem dL_law_895 : decode cL_law 895 = .ok (.aload_n 0, 1) := by decide +kernel
theorem dL_law_896 : decode cL_law 896 = .ok (.iload_n 3, 1) := by decide +kernel
theorem dL_law_897 : decode cL_law 897 = .ok (.iconst 1, 1) := by decide +kernel
theorem dL_law_898 : decode cL_law 898 = .ok (.iadd, 1) := by decide +kernel
theorem dL_law_899 : decode cL_law 899 = .ok (.iaload, 1) := by decide +kernel
theorem dL_law_900 : decode cL_law 900 = .ok (.invokevirtual 91, 3) := by decide +kernel
theorem dL_law_903 : decode cL_law 903 = .ok (.aload_n 2, 1) := by decide +kernel
theorem dL_law_904 : decode cL_law 904 = .ok (.aload_n 0, 1) := by decide +kernel
theorem dL_law_905 : decode cL_law 905 = .ok (.iload_n 3, 1) := by decide +kernel
theorem dL_law_906 : decode cL_law 906 = .ok (.iconst 1, 1) := by decide +kernel
theorem dL_law_907 : decode cL_law 907 = .ok (.iadd, 1) := by decide +kernel
theorem dL_law_908 : decode cL_law 908 = .ok (.iaload, 1) := by decide +kernel
theorem dL_law_909 : decode cL_law 909 = .ok (.invokevirtual 94, 3) := by decide +kernel
theorem dL_law_912 : decode cL_law 912 = .ok (.if_icmp .eq 640, 3) := by decide +kernel
theorem dL_law_915 : decode cL_law 915 = .ok (.iconst 0, 1) := by decide +kernel
theorem dL_law_916 : decode cL_law 916 = .ok (.ireturn, 1) := by decide +kernel
theorem dL_law_917 : decode cL_law 917 = .ok (.aload_n 1, 1) := by decide +kernel
theorem dL_law_918 : decode cL_law 918 = .ok (.aload_n 0, 1) := by decide +kernel
theorem dL_law_919 : decode cL_law 919 = .ok (.iload_n 3, 1) := by decide +kernel
theorem dL_law_920 : decode cL_law 920 = .ok (.iconst 1, 1) := by decide +kernel
theorem dL_law_921 : decode cL_law 921 = .ok (.iadd, 1) := by decide +kernel
theorem dL_law_922 : decode cL_law 922 = .ok (.iaload, 1) := by decide +kernel
theorem dL_law_923 : decode cL_law 923 = .ok (.aload_n 0, 1) := by decide +kernel
theorem dL_law_924 : decode cL_law 924 = .ok (.iload_n 3, 1) := by decide +kernel
theorem dL_law_925 : decode cL_law 925 = .ok (.iconst 2, 1) := by decide +kernel
theorem dL_law_926 : decode cL_law 926 = .ok (.iadd, 1) := by decide +kernel
theorem dL_law_927 : decode cL_law 927 = .ok (.iaload, 1) := by decide +kernel
theorem dL_law_928 : decode cL_law 928 = .ok (.aload_n 0, 1) := by decide +kernel
theorem dL_law_929 : decode cL_law 929 = .ok (.iload_n 3, 1) := by decide +kernel
theorem dL_law_930 : decode cL_law 930 = .ok (.iconst 3, 1) := by decide +kernel
theorem dL_law_931 : decode cL_law 931 = .ok (.iadd, 1) := by decide +kernel
theorem dL_law_932 : decode cL_law 932 = .ok (.iaload, 1) := by decide +kernel
theorem dL_law_933 : decode cL_law 933 = .ok (.invokevirtual 95, 3) := by decide +kernel
theorem dL_law_936 : decode cL_law 936 = .ok (.aload_n 2, 1) := by decide +kernel
theorem dL_law_937 : decode cL_law 937 = .ok (.aload_n 0, 1) := by decide +kernel
theorem dL_law_938 : decode cL_law 938 = .ok (.iload_n 3, 1) := by decide +kernel
theorem dL_law_939 : decode cL_law 939 = .ok (.iconst 1, 1) := by decide +kernel
theorem dL_law_940 : decode cL_law 940 = .ok (.iadd, 1) := by decide +kernel
theorem dL_law_941 : decode cL_law 941 = .ok (.iaload, 1) := by decide +kernel
theorem dL_law_942 : decode cL_law 942 = .ok (.aload_n 0, 1) := by decide +kernel
theorem dL_law_943 : decode cL_law 943 = .ok (.iload_n 3, 1) := by decide +kernel
theorem dL_law_944 : decode cL_law 944 = .ok (.iconst 2, 1) := by decide +kernel
theorem dL_law_945 : decode cL_law 945 = .ok (.iadd, 1) := by decide +kernel
theorem dL_law_946 : decode cL_law 946 = .ok (.iaload, 1) := by decide +kernel
theorem dL_law_947 : decode cL_law 947 = .ok (.aload_n 0, 1) := by decide +kernel
theorem dL_law_948 : decode cL_law 948 = .ok (.iload_n 3, 1) := by decide +kernel
theorem dL_law_949 : decode cL_law 949 = .ok (.iconst 3, 1) := by decide +kernel
theorem dL_law_950 : decode cL_law 950 = .ok (.iadd, 1) := by decide +kernel
theorem dL_law_951 : decode cL_law 951 = .ok (.iaload, 1) := by decide +kernel
theorem dL_law_952 : decode cL_law 952 = .ok (.invokevirtual 98, 3) := by decide +kernel
theorem dL_law_955 : decode cL_law 955 = .ok (.if_icmp .eq 597, 3) := by decide +kernel
theorem dL_law_958 : decode cL_law 958 = .ok (.iconst 0, 1) := by decide +kernel
theorem dL_law_959 : decode cL_law 959 = .ok (.ireturn, 1) := by decide +kernel
theorem dL_law_960 : decode cL_law 960 = .ok (.aload_n 1, 1) := by decide +kernel
theorem dL_law_961 : decode cL_law 961 = .ok (.aload_n 0, 1) := by decide +kernel
theorem dL_law_962 : decode cL_law 962 = .ok (.iload_n 3, 1) := by decide +kernel
theorem dL_law_963 : decode cL_law 963 = .ok (.iconst 1, 1) := by decide +kernel
theorem dL_law_964 : decode cL_law 964 = .ok (.iadd, 1) := by decide +kernel
theorem dL_law_965 : decode cL_law 965 = .ok (.iaload, 1) := by decide +kernel
theorem dL_law_966 : decode cL_law 966 = .ok (.invokevirtual 99, 3) := by decide +kernel
theorem dL_law_969 : decode cL_law 969 = .ok (.aload_n 2, 1) := by decide +kernel
theorem dL_law_970 : decode cL_law 970 = .ok (.aload_n 0, 1) := by decide +kernel
theorem dL_law_971 : decode cL_law 971 = .ok (.iload_n 3, 1) := by decide +kernel
theorem dL_law_972 : decode cL_law 972 = .ok (.iconst 1, 1) := by decide +kernel
theorem dL_law_973 : decode cL_law 973 = .ok (.iadd, 1) := by decide +kernel
theorem dL_law_974 : decode cL_law 974 = .ok (.iaload, 1) := by decide +kernel
theorem dL_law_975 : decode cL_law 975 = .ok (.invokevirtual 102, 3) := by decide +kernel
theorem dL_law_978 : decode cL_law 978 = .ok (.if_icmp .eq 574, 3) := by decide +kernel
theorem dL_law_981 : decode cL_law 981 = .ok (.iconst 0, 1) := by decide +kernel
theorem dL_law_982 : decode cL_law 982 = .ok (.ireturn, 1) := by decide +kernel
theorem dL_law_983 : decode cL_law 983 = .ok (.aload_n 1, 1) := by decide +kernel
theorem dL_law_984 : decode cL_law 984 = .ok (.aload_n 0, 1) := by decide +kernel
theorem dL_law_985 : decode cL_law 985 = .ok (.iload_n 3, 1) := by decide +kernel
theorem dL_law_986 : decode cL_law 986 = .ok (.iconst 1, 1) := by decide +kernel
theorem dL_law_987 : decode cL_law 987 = .ok (.iadd, 1) := by decide +kernel
theorem dL_law_988 : decode cL_law 988 = .ok (.iaload, 1) := by decide +kernel
theorem dL_law_989 : decode cL_law 989 = .ok (.invokevirtual 103, 3) := by decide +kernel
theorem dL_law_992 : decode cL_law 992 = .ok (.aload_n 2, 1) := by decide +kernel
theorem dL_law_993 : decode cL_law 993 = .ok (.aload_n 0, 1) := by decide +kernel
theorem dL_law_994 : decode cL_law 994 = .ok (.iload_n 3, 1) := by decide +kernel
theorem dL_law_995 : decode cL_law 995 = .ok (.iconst 1, 1) := by decide +kernel
theorem dL_law_996 : decode cL_law 996 = .ok (.iadd, 1) := by decide +kernel
theorem dL_law_997 : decode cL_law 997 = .ok (.iaload, 1) := by decide +kernel
theorem dL_law_998 : decode cL_law 998 = .ok (.invokevirtual 106, 3) := by decide +kernel
theorem dL_law_1001 : decode cL_law 1001 = .ok (.if_icmp .eq 551, 3) := by decide +kernel
theorem dL_law_1004 : decode cL_law 1004 = .ok (.iconst 0, 1) := by decide +kernel
theorem dL_law_1005 : decode cL_law 1005 = .ok (.ireturn, 1) := by decide +kernel
theorem dL_law_1006 : decode cL_law 1006 = .ok (.aload_n 1, 1) := by decide +kernel
theorem dL_law_1007 : decode cL_law 1007 = .ok (.aload_n 0, 1) := by decide +kernel
theorem dL_law_1008 : decode cL_law 1008 = .ok (.iload_n 3, 1) := by decide +kernel
theorem dL_law_1009 : decode cL_law 1009 = .ok (.iconst 1, 1) := by decide +kernel
theorem dL_law_1010 : decode cL_law 1010 = .ok (.iadd, 1) := by decide +kernel
theorem dL_law_1011 : decode cL_law 1011 = .ok (.iaload, 1) := by decide +kernel
theorem dL_law_1012 : decode cL_law 1012 = .ok (.invokevirtual 107, 3) := by decide +kernel
theorem dL_law_1015 : decode cL_law 1015 = .ok (.aload_n 2, 1) := by decide +kernel
theorem dL_law_1016 : decode cL_law 1016 = .ok (.aload_n 0, 1) := by decide +kernel
theorem dL_law_1017 : decode cL_law 1017 = .ok (.iload_n 3, 1) := by decide +kernel
theorem dL_law_1018 : decode cL_law 1018 = .ok (.iconst 1, 1) := by decide +kernel
theorem dL_law_1019 : decode cL_law 1019 = .ok (.iadd, 1) := by decide +kernel
theorem dL_law_1020 : decode cL_law 1020 = .ok (.iaload, 1) := by decide +kernel
theorem dL_law_1021 : decode cL_law 1021 = .ok (.invokevirtual 110, 3) := by decide +kernel
theorem dL_law_1024 : decode cL_law 1024 = .ok (.if_icmp .eq 528, 3) := by decide +kernel
theorem dL_law_1027 : decode cL_law 1027 = .ok (.iconst 0, 1) := by decide +kernel
theorem dL_law_1028 : decode cL_law 1028 = .ok (.ireturn, 1) := by decide +kernel
theorem dL_law_1029 : decode cL_law 1029 = .ok (.aload_n 1, 1) := by decide +kernel
theorem dL_law_1030 : decode cL_law 1030 = .ok (.aload_n 0, 1) := by decide +kernel
theorem dL_law_1031 : decode cL_law 1031 = .ok (.iload_n 3, 1) := by decide +kernel
theorem dL_law_1032 : decode cL_law 1032 = .ok (.iconst 1, 1) := by decide +kernel
theorem dL_law_1033 : decode cL_law 1033 = .ok (.iadd, 1) := by decide +kernel
theorem dL_law_1034 : decode cL_law 1034 = .ok (.iaload, 1) := by decide +kernel
theorem dL_law_1035 : decode cL_law 1035 = .ok (.aload_n 0, 1) := by decide +kernel
theorem dL_law_1036 : decode cL_law 1036 = .ok (.iload_n 3, 1) := by decide +kernel
theorem dL_law_1037 : decode cL_law 1037 = .ok (.iconst 2, 1) := by decide +kernel
theorem dL_law_1038 : decode cL_law 1038 = .ok (.iadd, 1) := by decide +kernel
theorem dL_law_1039 : decode cL_law 1039 = .ok (.iaload, 1) := by decide +kernel
theorem dL_law_1040 : decode cL_law 1040 = .ok (.invokevirtual 111, 3) := by decide +kernel
theorem dL_law_1043 : decode cL_law 1043 = .ok (.aload_n 2, 1) := by decide +kernel
theorem dL_law_1044 : decode cL_law 1044 = .ok (.aload_n 0, 1) := by decide +kernel
theorem dL_law_1045 : decode cL_law 1045 = .ok (.iload_n 3, 1) := by decide +kernel
theorem dL_law_1046 : decode cL_law 1046 = .ok (.iconst 1, 1) := by decide +kernel
theorem dL_law_1047 : decode cL_law 1047 = .ok (.iadd, 1) := by decide +kernel
theorem dL_law_1048 : decode cL_law 1048 = .ok (.iaload, 1) := by decide +kernel
theorem dL_law_1049 : decode cL_law 1049 = .ok (.aload_n 0, 1) := by decide +kernel
theorem dL_law_1050 : decode cL_law 1050 = .ok (.iload_n 3, 1) := by decide +kernel
theorem dL_law_1051 : decode cL_law 1051 = .ok (.iconst 2, 1) := by decide +kernel
theorem dL_law_1052 : decode cL_law 1052 = .ok (.iadd, 1) := by decide +kernel
theorem dL_law_1053 : decode cL_law 1053 = .ok (.iaload, 1) := by decide +kernel
theorem dL_law_1054 : decode cL_law 1054 = .ok (.invokevirtual 114, 3) := by decide +kernel
theorem dL_law_1057 : decode cL_law 1057 = .ok (.if_icmp .eq 495, 3) := by decide +kernel
theorem dL_law_1060 : decode cL_law 1060 = .ok (.iconst 0, 1) := by decide +kernel
theorem dL_law_1061 : decode cL_law 1061 = .ok (.ireturn, 1) := by decide +kernel
theorem dL_law_1062 : decode cL_law 1062 = .ok (.aload_n 1, 1) := by decide +kernel
theorem dL_law_1063 : decode cL_law 1063 = .ok (.aload_n 0, 1) := by decide +kernel
theorem dL_law_1064 : decode cL_law 1064 = .ok (.iload_n 3, 1) := by decide +kernel
theorem dL_law_1065 : decode cL_law 1065 = .ok (.iconst 1, 1) := by decide +kernel
theorem dL_law_1066 : decode cL_law 1066 = .ok (.iadd, 1) := by decide +kernel
theorem dL_law_1067 : decode cL_law 1067 = .ok (.iaload, 1) := by decide +kernel
theorem dL_law_1068 : decode cL_law 1068 = .ok (.aload_n 0, 1) := by decide +kernel
theorem dL_law_1069 : decode cL_law 1069 = .ok (.iload_n 3, 1) := by decide +kernel
theorem dL_law_1070 : decode cL_law 1070 = .ok (.iconst 2, 1) := by decide +kernel
theorem dL_law_1071 : decode cL_law 1071 = .ok (.iadd, 1) := by decide +kernel
theorem dL_law_1072 : decode cL_law 1072 = .ok (.iaload, 1) := by decide +kernel
theorem dL_law_1073 : decode cL_law 1073 = .ok (.invokevirtual 115, 3) := by decide +kernel
theorem dL_law_1076 : decode cL_law 1076 = .ok (.aload_n 2, 1) := by decide +kernel
theorem dL_law_1077 : decode cL_law 1077 = .ok (.aload_n 0, 1) := by decide +kernel
theorem dL_law_1078 : decode cL_law 1078 = .ok (.iload_n 3, 1) := by decide +kernel
theorem dL_law_1079 : decode cL_law 1079 = .ok (.iconst 1, 1) := by decide +kernel
theorem dL_law_1080 : decode cL_law 1080 = .ok (.iadd, 1) := by decide +kernel
theorem dL_law_1081 : decode cL_law 1081 = .ok (.iaload, 1) := by decide +kernel
theorem dL_law_1082 : decode cL_law 1082 = .ok (.aload_n 0, 1) := by decide +kernel
theorem dL_law_1083 : decode cL_law 1083 = .ok (.iload_n 3, 1) := by decide +kernel
theorem dL_law_1084 : decode cL_law 1084 = .ok (.iconst 2, 1) := by decide +kernel
theorem dL_law_1085 : decode cL_law 1085 = .ok (.iadd, 1) := by decide +kernel
theorem dL_law_1086 : decode cL_law 1086 = .ok (.iaload, 1) := by decide +kernel
theorem dL_law_1087 : decode cL_law 1087 = .ok (.invokevirtual 118, 3) := by decide +kernel
theorem dL_law_1090 : decode cL_law 1090 = .ok (.if_icmp .eq 462, 3) := by decide +kernel
theorem dL_law_1093 : decode cL_law 1093 = .ok (.iconst 0, 1) := by decide +kernel
theorem dL_law_1094 : decode cL_law 1094 = .ok (.ireturn, 1) := by decide +kernel
theorem dL_law_1095 : decode cL_law 1095 = .ok (.aload_n 1, 1) := by decide +kernel
theorem dL_law_1096 : decode cL_law 1096 = .ok (.aload_n 0, 1) := by decide +kernel
theorem dL_law_1097 : decode cL_law 1097 = .ok (.iload_n 3, 1) := by decide +kernel
theorem dL_law_1098 : decode cL_law 1098 = .ok (.iconst 1, 1) := by decide +kernel
theorem dL_law_1099 : decode cL_law 1099 = .ok (.iadd, 1) := by decide +kernel
theorem dL_law_1100 : decode cL_law 1100 = .ok (.iaload, 1) := by decide +kernel
theorem dL_law_1101 : decode cL_law 1101 = .ok (.invokevirtual 119, 3) := by decide +kernel
theorem dL_law_1104 : decode cL_law 1104 = .ok (.aload_n 2, 1) := by decide +kernel
theorem dL_law_1105 : decode cL_law 1105 = .ok (.aload_n 0, 1) := by decide +kernel
theorem dL_law_1106 : decode cL_law 1106 = .ok (.iload_n 3, 1) := by decide +kernel
theorem dL_law_1107 : decode cL_law 1107 = .ok (.iconst 1, 1) := by decide +kernel
theorem dL_law_1108 : decode cL_law 1108 = .ok (.iadd, 1) := by decide +kernel
theorem dL_law_1109 : decode cL_law 1109 = .ok (.iaload, 1) := by decide +kernel
theorem dL_law_1110 : decode cL_law 1110 = .ok (.invokevirtual 123, 3) := by decide +kernel
theorem dL_law_1113 : decode cL_law 1113 = .ok (.lcmp, 1) := by decide +kernel
theorem dL_law_1114 : decode cL_law 1114 = .ok (.ifCond .eq 438, 3) := by decide +kernel
theorem dL_law_1117 : decode cL_law 1117 = .ok (.iconst 0, 1) := by decide +kernel
theorem dL_law_1118 : decode cL_law 1118 = .ok (.ireturn, 1) := by decide +kernel
theorem dL_law_1119 : decode cL_law 1119 = .ok (.aload_n 1, 1) := by decide +kernel
theorem dL_law_1120 : decode cL_law 1120 = .ok (.aload_n 0, 1) := by decide +kernel
theorem dL_law_1121 : decode cL_law 1121 = .ok (.iload_n 3, 1) := by decide +kernel
theorem dL_law_1122 : decode cL_law 1122 = .ok (.iconst 1, 1) := by decide +kernel
theorem dL_law_1123 : decode cL_law 1123 = .ok (.iadd, 1) := by decide +kernel
theorem dL_law_1124 : decode cL_law 1124 = .ok (.iaload, 1) := by decide +kernel
theorem dL_law_1125 : decode cL_law 1125 = .ok (.invokevirtual 124, 3) := by decide +kernel
theorem dL_law_1128 : decode cL_law 1128 = .ok (.aload_n 2, 1) := by decide +kernel
theorem dL_law_1129 : decode cL_law 1129 = .ok (.aload_n 0, 1) := by decide +kernel
theorem dL_law_1130 : decode cL_law 1130 = .ok (.iload_n 3, 1) := by decide +kernel
theorem dL_law_1131 : decode cL_law 1131 = .ok (.iconst 1, 1) := by decide +kernel
theorem dL_law_1132 : decode cL_law 1132 = .ok (.iadd, 1) := by decide +kernel
theorem dL_law_1133 : decode cL_law 1133 = .ok (.iaload, 1) := by decide +kernel
theorem dL_law_1134 : decode cL_law 1134 = .ok (.invokevirtual 127, 3) := by decide +kernel
theorem dL_law_1137 : decode cL_law 1137 = .ok (.if_icmp .eq 415, 3) := by decide +kernel
theorem dL_law_1140 : decode cL_law 1140 = .ok (.iconst 0, 1) := by decide +kernel
theorem dL_law_1141 : decode cL_law 1141 = .ok (.ireturn, 1) := by decide +kernel
theorem dL_law_1142 : decode cL_law 1142 = .ok (.aload_n 1, 1) := by decide +kernel
theorem dL_law_1143 : decode cL_law 1143 = .ok (.aload_n 0, 1) := by decide +kernel
theorem dL_law_1144 : decode cL_law 1144 = .ok (.iload_n 3, 1) := by decide +kernel
theorem dL_law_1145 : decode cL_law 1145 = .ok (.iconst 1, 1) := by decide +kernel
theorem dL_law_1146 : decode cL_law 1146 = .ok (.iadd, 1) := by decide +kernel
theorem dL_law_1147 : decode cL_law 1147 = .ok (.iaload, 1) := by decide +kernel
theorem dL_law_1148 : decode cL_law 1148 = .ok (.invokevirtual 128, 3) := by decide +kernel
theorem dL_law_1151 : decode cL_law 1151 = .ok (.aload_n 2, 1) := by decide +kernel
theorem dL_law_1152 : decode cL_law 1152 = .ok (.aload_n 0, 1) := by decide +kernel
theorem dL_law_1153 : decode cL_law 1153 = .ok (.iload_n 3, 1) := by decide +kernel
theorem dL_law_1154 : decode cL_law 1154 = .ok (.iconst 1, 1) := by decide +kernel
theorem dL_law_1155 : decode cL_law 1155 = .ok (.iadd, 1) := by decide +kernel
theorem dL_law_1156 : decode cL_law 1156 = .ok (.iaload, 1) := by decide +kernel
theorem dL_law_1157 : decode cL_law 1157 = .ok (.invokevirtual 131, 3) := by decide +kernel
theorem dL_law_1160 : decode cL_law 1160 = .ok (.if_icmp .eq 392, 3) := by decide +kernel
theorem dL_law_1163 : decode cL_law 1163 = .ok (.iconst 0, 1) := by decide +kernel
theorem dL_law_1164 : decode cL_law 1164 = .ok (.ireturn, 1) := by decide +kernel
theorem dL_law_1165 : decode cL_law 1165 = .ok (.aload_n 1, 1) := by decide +kernel
theorem dL_law_1166 : decode cL_law 1166 = .ok (.aload_n 0, 1) := by decide +kernel
theorem dL_law_1167 : decode cL_law 1167 = .ok (.iload_n 3, 1) := by decide +kernel
theorem dL_law_1168 : decode cL_law 1168 = .ok (.iconst 1, 1) := by decide +kernel
theorem dL_law_1169 : decode cL_law 1169 = .ok (.iadd, 1) := by decide +kernel
theorem dL_law_1170 : decode cL_law 1170 = .ok (.iaload, 1) := by decide +kernel
theorem dL_law_1171 : decode cL_law 1171 = .ok (.invokevirtual 132, 3) := by decide +kernel
theorem dL_law_1174 : decode cL_law 1174 = .ok (.aload_n 2, 1) := by decide +kernel
theorem dL_law_1175 : decode cL_law 1175 = .ok (.aload_n 0, 1) := by decide +kernel
theorem dL_law_1176 : decode cL_law 1176 = .ok (.iload_n 3, 1) := by decide +kernel
theorem dL_law_1177 : decode cL_law 1177 = .ok (.iconst 1, 1) := by decide +kernel
theorem dL_law_1178 : decode cL_law 1178 = .ok (.iadd, 1) := by decide +kernel
theorem dL_law_1179 : decode cL_law 1179 = .ok (.iaload, 1) := by decide +kernel
theorem dL_law_1180 : decode cL_law 1180 = .ok (.invokevirtual 135, 3) := by decide +kernel
theorem dL_law_1183 : decode cL_law 1183 = .ok (.if_icmp .eq 369, 3) := by decide +kernel
theorem dL_law_1186 : decode cL_law 1186 = .ok (.iconst 0, 1) := by decide +kernel
theorem dL_law_1187 : decode cL_law 1187 = .ok (.ireturn, 1) := by decide +kernel
theorem dL_law_1188 : decode cL_law 1188 = .ok (.aload_n 1, 1) := by decide +kernel
theorem dL_law_1189 : decode cL_law 1189 = .ok (.aload_n 0, 1) := by decide +kernel
theorem dL_law_1190 : decode cL_law 1190 = .ok (.iload_n 3, 1) := by decide +kernel
theorem dL_law_1191 : decode cL_law 1191 = .ok (.iconst 1, 1) := by decide +kernel
theorem dL_law_1192 : decode cL_law 1192 = .ok (.iadd, 1) := by decide +kernel
theorem dL_law_1193 : decode cL_law 1193 = .ok (.iaload, 1) := by decide +kernel
theorem dL_law_1194 : decode cL_law 1194 = .ok (.aload_n 0, 1) := by decide +kernel
theorem dL_law_1195 : decode cL_law 1195 = .ok (.iload_n 3, 1) := by decide +kernel
theorem dL_law_1196 : decode cL_law 1196 = .ok (.iconst 2, 1) := by decide +kernel
theorem dL_law_1197 : decode cL_law 1197 = .ok (.iadd, 1) := by decide +kernel
theorem dL_law_1198 : decode cL_law 1198 = .ok (.iaload, 1) := by decide +kernel
theorem dL_law_1199 : decode cL_law 1199 = .ok (.invokevirtual 136, 3) := by decide +kernel
theorem dL_law_1202 : decode cL_law 1202 = .ok (.aload_n 2, 1) := by decide +kernel
theorem dL_law_1203 : decode cL_law 1203 = .ok (.aload_n 0, 1) := by decide +kernel
theorem dL_law_1204 : decode cL_law 1204 = .ok (.iload_n 3, 1) := by decide +kernel
theorem dL_law_1205 : decode cL_law 1205 = .ok (.iconst 1, 1) := by decide +kernel
theorem dL_law_1206 : decode cL_law 1206 = .ok (.iadd, 1) := by decide +kernel
theorem dL_law_1207 : decode cL_law 1207 = .ok (.iaload, 1) := by decide +kernel
theorem dL_law_1208 : decode cL_law 1208 = .ok (.aload_n 0, 1) := by decide +kernel
theorem dL_law_1209 : decode cL_law 1209 = .ok (.iload_n 3, 1) := by decide +kernel
theorem dL_law_1210 : decode cL_law 1210 = .ok (.iconst 2, 1) := by decide +kernel
theorem dL_law_1211 : decode cL_law 1211 = .ok (.iadd, 1) := by decide +kernel
theorem dL_law_1212 : decode cL_law 1212 = .ok (.iaload, 1) := by decide +kernel
theorem dL_law_1213 : decode cL_law 1213 = .ok (.invokevirtual 139, 3) := by decide +kernel
theorem dL_law_1216 : decode cL_law 1216 = .ok (.if_icmp .eq 336, 3) := by decide +kernel
theorem dL_law_1219 : decode cL_law 1219 = .ok (.iconst 0, 1) := by decide +kernel
theorem dL_law_1220 : decode cL_law 1220 = .ok (.ireturn, 1) := by decide +kernel
theorem dL_law_1221 : decode cL_law 1221 = .ok (.aload_n 1, 1) := by decide +kernel
theorem dL_law_1222 : decode cL_law 1222 = .ok (.invokevirtual 140, 3) := by decide +kernel
theorem dL_law_1225 : decode cL_law 1225 = .ok (.aload_n 2, 1) := by decide +kernel
theorem dL_law_1226 : decode cL_law 1226 = .ok (.invokevirtual 143, 3) := by decide +kernel
theorem dL_law_1229 : decode cL_law 1229 = .ok (.if_icmp .eq 323, 3) := by decide +kernel
theorem dL_law_1232 : decode cL_law 1232 = .ok (.iconst 0, 1) := by decide +kernel
theorem dL_law_1233 : decode cL_law 1233 = .ok (.ireturn, 1) := by decide +kernel
theorem dL_law_1234 : decode cL_law 1234 = .ok (.aload_n 1, 1) := by decide +kernel
theorem dL_law_1235 : decode cL_law 1235 = .ok (.invokevirtual 144, 3) := by decide +kernel
theorem dL_law_1238 : decode cL_law 1238 = .ok (.aload_n 2, 1) := by decide +kernel
theorem dL_law_1239 : decode cL_law 1239 = .ok (.invokevirtual 147, 3) := by decide +kernel
theorem dL_law_1242 : decode cL_law 1242 = .ok (.if_icmp .eq 310, 3) := by decide +kernel
theorem dL_law_1245 : decode cL_law 1245 = .ok (.iconst 0, 1) := by decide +kernel
theorem dL_law_1246 : decode cL_law 1246 = .ok (.ireturn, 1) := by decide +kernel
theorem dL_law_1247 : decode cL_law 1247 = .ok (.aload_n 1, 1) := by decide +kernel
theorem dL_law_1248 : decode cL_law 1248 = .ok (.aload_n 0, 1) := by decide +kernel
theorem dL_law_1249 : decode cL_law 1249 = .ok (.iload_n 3, 1) := by decide +kernel
theorem dL_law_1250 : decode cL_law 1250 = .ok (.iconst 1, 1) := by decide +kernel
theorem dL_law_1251 : decode cL_law 1251 = .ok (.iadd, 1) := by decide +kernel
theorem dL_law_1252 : decode cL_law 1252 = .ok (.iaload, 1) := by decide +kernel
theorem dL_law_1253 : decode cL_law 1253 = .ok (.aload_n 0, 1) := by decide +kernel
theorem dL_law_1254 : decode cL_law 1254 = .ok (.iload_n 3, 1) := by decide +kernel
theorem dL_law_1255 : decode cL_law 1255 = .ok (.iconst 2, 1) := by decide +kernel
theorem dL_law_1256 : decode cL_law 1256 = .ok (.iadd, 1) := by decide +kernel
theorem dL_law_1257 : decode cL_law 1257 = .ok (.iaload, 1) := by decide +kernel
theorem dL_law_1258 : decode cL_law 1258 = .ok (.invokevirtual 148, 3) := by decide +kernel
theorem dL_law_1261 : decode cL_law 1261 = .ok (.aload_n 2, 1) := by decide +kernel
theorem dL_law_1262 : decode cL_law 1262 = .ok (.aload_n 0, 1) := by decide +kernel
theorem dL_law_1263 : decode cL_law 1263 = .ok (.iload_n 3, 1) := by decide +kernel
theorem dL_law_1264 : decode cL_law 1264 = .ok (.iconst 1, 1) := by decide +kernel
theorem dL_law_1265 : decode cL_law 1265 = .ok (.iadd, 1) := by decide +kernel
theorem dL_law_1266 : decode cL_law 1266 = .ok (.iaload, 1) := by decide +kernel
theorem dL_law_1267 : decode cL_law 1267 = .ok (.aload_n 0, 1) := by decide +kernel
theorem dL_law_1268 : decode cL_law 1268 = .ok (.iload_n 3, 1) := by decide +kernel
theorem dL_law_1269 : decode cL_law 1269 = .ok (.iconst 2, 1) := by decide +kernel
theorem dL_law_1270 : decode cL_law 1270 = .ok (.iadd, 1) := by decide +kernel
theorem dL_law_1271 : decode cL_law 1271 = .ok (.iaload, 1) := by decide +kernel
theorem dL_law_1272 : decode cL_law 1272 = .ok (.invokevirtual 151, 3) := by decide +kernel
theorem dL_law_1275 : decode cL_law 1275 = .ok (.if_icmp .eq 277, 3) := by decide +kernel
theorem dL_law_1278 : decode cL_law 1278 = .ok (.iconst 0, 1) := by decide +kernel
theorem dL_law_1279 : decode cL_law 1279 = .ok (.ireturn, 1) := by decide +kernel
theorem dL_law_1280 : decode cL_law 1280 = .ok (.aload_n 1, 1) := by decide +kernel
theorem dL_law_1281 : decode cL_law 1281 = .ok (.aload_n 0, 1) := by decide +kernel
theorem dL_law_1282 : decode cL_law 1282 = .ok (.iload_n 3, 1) := by decide +kernel
theorem dL_law_1283 : decode cL_law 1283 = .ok (.iconst 1, 1) := by decide +kernel
theorem dL_law_1284 : decode cL_law 1284 = .ok (.iadd, 1) := by decide +kernel
theorem dL_law_1285 : decode cL_law 1285 = .ok (.iaload, 1) := by decide +kernel
theorem dL_law_1286 : decode cL_law 1286 = .ok (.aload_n 0, 1) := by decide +kernel
theorem dL_law_1287 : decode cL_law 1287 = .ok (.iload_n 3, 1) := by decide +kernel
theorem dL_law_1288 : decode cL_law 1288 = .ok (.iconst 2, 1) := by decide +kernel
theorem dL_law_1289 : decode cL_law 1289 = .ok (.iadd, 1) := by decide +kernel
theorem dL_law_1290 : decode cL_law 1290 = .ok (.iaload, 1) := by decide +kernel
theorem dL_law_1291 : decode cL_law 1291 = .ok (.aload_n 0, 1) := by decide +kernel
theorem dL_law_1292 : decode cL_law 1292 = .ok (.iload_n 3, 1) := by decide +kernel
theorem dL_law_1293 : decode cL_law 1293 = .ok (.iconst 3, 1) := by decide +kernel
theorem dL_law_1294 : decode cL_law 1294 = .ok (.iadd, 1) := by decide +kernel
theorem dL_law_1295 : decode cL_law 1295 = .ok (.iaload, 1) := by decide +kernel
theorem dL_law_1296 : decode cL_law 1296 = .ok (.invokevirtual 152, 3) := by decide +kernel
theorem dL_law_1299 : decode cL_law 1299 = .ok (.aload_n 2, 1) := by decide +kernel
theorem dL_law_1300 : decode cL_law 1300 = .ok (.aload_n 0, 1) := by decide +kernel
theorem dL_law_1301 : decode cL_law 1301 = .ok (.iload_n 3, 1) := by decide +kernel
theorem dL_law_1302 : decode cL_law 1302 = .ok (.iconst 1, 1) := by decide +kernel
theorem dL_law_1303 : decode cL_law 1303 = .ok (.iadd, 1) := by decide +kernel
theorem dL_law_1304 : decode cL_law 1304 = .ok (.iaload, 1) := by decide +kernel
theorem dL_law_1305 : decode cL_law 1305 = .ok (.aload_n 0, 1) := by decide +kernel
theorem dL_law_1306 : decode cL_law 1306 = .ok (.iload_n 3, 1) := by decide +kernel
theorem dL_law_1307 : decode cL_law 1307 = .ok (.iconst 2, 1) := by decide +kernel
theorem dL_law_1308 : decode cL_law 1308 = .ok (.iadd, 1) := by decide +kernel
theorem dL_law_1309 : decode cL_law 1309 = .ok (.iaload, 1) := by decide +kernel
theorem dL_law_1310 : decode cL_law 1310 = .ok (.aload_n 0, 1) := by decide +kernel
theorem dL_law_1311 : decode cL_law 1311 = .ok (.iload_n 3, 1) := by decide +kernel
theorem dL_law_1312 : decode cL_law 1312 = .ok (.iconst 3, 1) := by decide +kernel
theorem dL_law_1313 : decode cL_law 1313 = .ok (.iadd, 1) := by decide +kernel
theorem dL_law_1314 : decode cL_law 1314 = .ok (.iaload, 1) := by decide +kernel
theorem dL_law_1315 : decode cL_law 1315 = .ok (.invokevirtual 155, 3) := by decide +kernel
theorem dL_law_1318 : decode cL_law 1318 = .ok (.if_icmp .eq 234, 3) := by decide +kernel
theorem dL_law_1321 : decode cL_law 1321 = .ok (.iconst 0, 1) := by decide +kernel
theorem dL_law_1322 : decode cL_law 1322 = .ok (.ireturn, 1) := by decide +kernel
theorem dL_law_1323 : decode cL_law 1323 = .ok (.aload_n 1, 1) := by decide +kernel
theorem dL_law_1324 : decode cL_law 1324 = .ok (.aload_n 0, 1) := by decide +kernel
theorem dL_law_1325 : decode cL_law 1325 = .ok (.iload_n 3, 1) := by decide +kernel
theorem dL_law_1326 : decode cL_law 1326 = .ok (.iconst 1, 1) := by decide +kernel
theorem dL_law_1327 : decode cL_law 1327 = .ok (.iadd, 1) := by decide +kernel
theorem dL_law_1328 : decode cL_law 1328 = .ok (.iaload, 1) := by decide +kernel
theorem dL_law_1329 : decode cL_law 1329 = .ok (.aload_n 0, 1) := by decide +kernel
theorem dL_law_1330 : decode cL_law 1330 = .ok (.iload_n 3, 1) := by decide +kernel
theorem dL_law_1331 : decode cL_law 1331 = .ok (.iconst 2, 1) := by decide +kernel
theorem dL_law_1332 : decode cL_law 1332 = .ok (.iadd, 1) := by decide +kernel
theorem dL_law_1333 : decode cL_law 1333 = .ok (.iaload, 1) := by decide +kernel
theorem dL_law_1334 : decode cL_law 1334 = .ok (.aload_n 0, 1) := by decide +kernel
theorem dL_law_1335 : decode cL_law 1335 = .ok (.iload_n 3, 1) := by decide +kernel
theorem dL_law_1336 : decode cL_law 1336 = .ok (.iconst 3, 1) := by decide +kernel
theorem dL_law_1337 : decode cL_law 1337 = .ok (.iadd, 1) := by decide +kernel
theorem dL_law_1338 : decode cL_law 1338 = .ok (.iaload, 1) := by decide +kernel
theorem dL_law_1339 : decode cL_law 1339 = .ok (.i2l, 1) := by decide +kernel
theorem dL_law_1340 : decode cL_law 1340 = .ok (.bipush 32, 2) := by decide +kernel
theorem dL_law_1342 : decode cL_law 1342 = .ok (.lshl, 1) := by decide +kernel
theorem dL_law_1343 : decode cL_law 1343 = .ok (.aload_n 0, 1) := by decide +kernel
theorem dL_law_1344 : decode cL_law 1344 = .ok (.iload_n 3, 1) := by decide +kernel
theorem dL_law_1345 : decode cL_law 1345 = .ok (.iconst 4, 1) := by decide +kernel
theorem dL_law_1346 : decode cL_law 1346 = .ok (.iadd, 1) := by decide +kernel
theorem dL_law_1347 : decode cL_law 1347 = .ok (.iaload, 1) := by decide +kernel
theorem dL_law_1348 : decode cL_law 1348 = .ok (.i2l, 1) := by decide +kernel
theorem dL_law_1349 : decode cL_law 1349 = .ok (.ldc2_w 156, 3) := by decide +kernel
theorem dL_law_1352 : decode cL_law 1352 = .ok (.land, 1) := by decide +kernel
theorem dL_law_1353 : decode cL_law 1353 = .ok (.lor, 1) := by decide +kernel
theorem dL_law_1354 : decode cL_law 1354 = .ok (.invokevirtual 158, 3) := by decide +kernel
theorem dL_law_1357 : decode cL_law 1357 = .ok (.aload_n 2, 1) := by decide +kernel
theorem dL_law_1358 : decode cL_law 1358 = .ok (.aload_n 0, 1) := by decide +kernel
theorem dL_law_1359 : decode cL_law 1359 = .ok (.iload_n 3, 1) := by decide +kernel
theorem dL_law_1360 : decode cL_law 1360 = .ok (.iconst 1, 1) := by decide +kernel
theorem dL_law_1361 : decode cL_law 1361 = .ok (.iadd, 1) := by decide +kernel
theorem dL_law_1362 : decode cL_law 1362 = .ok (.iaload, 1) := by decide +kernel
theorem dL_law_1363 : decode cL_law 1363 = .ok (.aload_n 0, 1) := by decide +kernel
theorem dL_law_1364 : decode cL_law 1364 = .ok (.iload_n 3, 1) := by decide +kernel
theorem dL_law_1365 : decode cL_law 1365 = .ok (.iconst 2, 1) := by decide +kernel
theorem dL_law_1366 : decode cL_law 1366 = .ok (.iadd, 1) := by decide +kernel
theorem dL_law_1367 : decode cL_law 1367 = .ok (.iaload, 1) := by decide +kernel
theorem dL_law_1368 : decode cL_law 1368 = .ok (.aload_n 0, 1) := by decide +kernel
theorem dL_law_1369 : decode cL_law 1369 = .ok (.iload_n 3, 1) := by decide +kernel
theorem dL_law_1370 : decode cL_law 1370 = .ok (.iconst 3, 1) := by decide +kernel
theorem dL_law_1371 : decode cL_law 1371 = .ok (.iadd, 1) := by decide +kernel
theorem dL_law_1372 : decode cL_law 1372 = .ok (.iaload, 1) := by decide +kernel
theorem dL_law_1373 : decode cL_law 1373 = .ok (.i2l, 1) := by decide +kernel
theorem dL_law_1374 : decode cL_law 1374 = .ok (.bipush 32, 2) := by decide +kernel
theorem dL_law_1376 : decode cL_law 1376 = .ok (.lshl, 1) := by decide +kernel
theorem dL_law_1377 : decode cL_law 1377 = .ok (.aload_n 0, 1) := by decide +kernel
theorem dL_law_1378 : decode cL_law 1378 = .ok (.iload_n 3, 1) := by decide +kernel
theorem dL_law_1379 : decode cL_law 1379 = .ok (.iconst 4, 1) := by decide +kernel
theorem dL_law_1380 : decode cL_law 1380 = .ok (.iadd, 1) := by decide +kernel
theorem dL_law_1381 : decode cL_law 1381 = .ok (.iaload, 1) := by decide +kernel
theorem dL_law_1382 : decode cL_law 1382 = .ok (.i2l, 1) := by decide +kernel
theorem dL_law_1383 : decode cL_law 1383 = .ok (.ldc2_w 156, 3) := by decide +kernel
theorem dL_law_1386 : decode cL_law 1386 = .ok (.land, 1) := by decide +kernel
theorem dL_law_1387 : decode cL_law 1387 = .ok (.lor, 1) := by decide +kernel
theorem dL_law_1388 : decode cL_law 1388 = .ok (.invokevirtual 162, 3) := by decide +kernel
theorem dL_law_1391 : decode cL_law 1391 = .ok (.if_icmp .eq 161, 3) := by decide +kernel
theorem dL_law_1394 : decode cL_law 1394 = .ok (.iconst 0, 1) := by decide +kernel
theorem dL_law_1395 : decode cL_law 1395 = .ok (.ireturn, 1) := by decide +kernel
theorem dL_law_1396 : decode cL_law 1396 = .ok (.aload_n 1, 1) := by decide +kernel
theorem dL_law_1397 : decode cL_law 1397 = .ok (.aload_n 0, 1) := by decide +kernel
theorem dL_law_1398 : decode cL_law 1398 = .ok (.iload_n 3, 1) := by decide +kernel
theorem dL_law_1399 : decode cL_law 1399 = .ok (.iconst 1, 1) := by decide +kernel
theorem dL_law_1400 : decode cL_law 1400 = .ok (.iadd, 1) := by decide +kernel
theorem dL_law_1401 : decode cL_law 1401 = .ok (.iaload, 1) := by decide +kernel
theorem dL_law_1402 : decode cL_law 1402 = .ok (.aload_n 0, 1) := by decide +kernel
theorem dL_law_1403 : decode cL_law 1403 = .ok (.iload_n 3, 1) := by decide +kernel
theorem dL_law_1404 : decode cL_law 1404 = .ok (.iconst 2, 1) := by decide +kernel
theorem dL_law_1405 : decode cL_law 1405 = .ok (.iadd, 1) := by decide +kernel
theorem dL_law_1406 : decode cL_law 1406 = .ok (.iaload, 1) := by decide +kernel
theorem dL_law_1407 : decode cL_law 1407 = .ok (.invokevirtual 163, 3) := by decide +kernel
theorem dL_law_1410 : decode cL_law 1410 = .ok (.aload_n 2, 1) := by decide +kernel
theorem dL_law_1411 : decode cL_law 1411 = .ok (.aload_n 0, 1) := by decide +kernel
theorem dL_law_1412 : decode cL_law 1412 = .ok (.iload_n 3, 1) := by decide +kernel
theorem dL_law_1413 : decode cL_law 1413 = .ok (.iconst 1, 1) := by decide +kernel
theorem dL_law_1414 : decode cL_law 1414 = .ok (.iadd, 1) := by decide +kernel
theorem dL_law_1415 : decode cL_law 1415 = .ok (.iaload, 1) := by decide +kernel
theorem dL_law_1416 : decode cL_law 1416 = .ok (.aload_n 0, 1) := by decide +kernel
theorem dL_law_1417 : decode cL_law 1417 = .ok (.iload_n 3, 1) := by decide +kernel
theorem dL_law_1418 : decode cL_law 1418 = .ok (.iconst 2, 1) := by decide +kernel
theorem dL_law_1419 : decode cL_law 1419 = .ok (.iadd, 1) := by decide +kernel
theorem dL_law_1420 : decode cL_law 1420 = .ok (.iaload, 1) := by decide +kernel
theorem dL_law_1421 : decode cL_law 1421 = .ok (.invokevirtual 167, 3) := by decide +kernel
theorem dL_law_1424 : decode cL_law 1424 = .ok (.lcmp, 1) := by decide +kernel
theorem dL_law_1425 : decode cL_law 1425 = .ok (.ifCond .eq 127, 3) := by decide +kernel
theorem dL_law_1428 : decode cL_law 1428 = .ok (.iconst 0, 1) := by decide +kernel
theorem dL_law_1429 : decode cL_law 1429 = .ok (.ireturn, 1) := by decide +kernel
theorem dL_law_1430 : decode cL_law 1430 = .ok (.aload_n 1, 1) := by decide +kernel
theorem dL_law_1431 : decode cL_law 1431 = .ok (.aload_n 0, 1) := by decide +kernel
theorem dL_law_1432 : decode cL_law 1432 = .ok (.iload_n 3, 1) := by decide +kernel
theorem dL_law_1433 : decode cL_law 1433 = .ok (.iconst 1, 1) := by decide +kernel
theorem dL_law_1434 : decode cL_law 1434 = .ok (.iadd, 1) := by decide +kernel
theorem dL_law_1435 : decode cL_law 1435 = .ok (.iaload, 1) := by decide +kernel
theorem dL_law_1436 : decode cL_law 1436 = .ok (.aload_n 0, 1) := by decide +kernel
theorem dL_law_1437 : decode cL_law 1437 = .ok (.iload_n 3, 1) := by decide +kernel
theorem dL_law_1438 : decode cL_law 1438 = .ok (.iconst 2, 1) := by decide +kernel
theorem dL_law_1439 : decode cL_law 1439 = .ok (.iadd, 1) := by decide +kernel
theorem dL_law_1440 : decode cL_law 1440 = .ok (.iaload, 1) := by decide +kernel
theorem dL_law_1441 : decode cL_law 1441 = .ok (.aload_n 0, 1) := by decide +kernel
theorem dL_law_1442 : decode cL_law 1442 = .ok (.iload_n 3, 1) := by decide +kernel
theorem dL_law_1443 : decode cL_law 1443 = .ok (.iconst 3, 1) := by decide +kernel
theorem dL_law_1444 : decode cL_law 1444 = .ok (.iadd, 1) := by decide +kernel
theorem dL_law_1445 : decode cL_law 1445 = .ok (.iaload, 1) := by decide +kernel
theorem dL_law_1446 : decode cL_law 1446 = .ok (.aload_n 0, 1) := by decide +kernel
theorem dL_law_1447 : decode cL_law 1447 = .ok (.iload_n 3, 1) := by decide +kernel
theorem dL_law_1448 : decode cL_law 1448 = .ok (.iconst 4, 1) := by decide +kernel
theorem dL_law_1449 : decode cL_law 1449 = .ok (.iadd, 1) := by decide +kernel
theorem dL_law_1450 : decode cL_law 1450 = .ok (.iaload, 1) := by decide +kernel
theorem dL_law_1451 : decode cL_law 1451 = .ok (.aload_n 0, 1) := by decide +kernel
theorem dL_law_1452 : decode cL_law 1452 = .ok (.iload_n 3, 1) := by decide +kernel
theorem dL_law_1453 : decode cL_law 1453 = .ok (.iconst 5, 1) := by decide +kernel
theorem dL_law_1454 : decode cL_law 1454 = .ok (.iadd, 1) := by decide +kernel
theorem dL_law_1455 : decode cL_law 1455 = .ok (.iaload, 1) := by decide +kernel
theorem dL_law_1456 : decode cL_law 1456 = .ok (.invokevirtual 168, 3) := by decide +kernel
theorem dL_law_1459 : decode cL_law 1459 = .ok (.aload_n 2, 1) := by decide +kernel
theorem dL_law_1460 : decode cL_law 1460 = .ok (.aload_n 0, 1) := by decide +kernel
theorem dL_law_1461 : decode cL_law 1461 = .ok (.iload_n 3, 1) := by decide +kernel
theorem dL_law_1462 : decode cL_law 1462 = .ok (.iconst 1, 1) := by decide +kernel
theorem dL_law_1463 : decode cL_law 1463 = .ok (.iadd, 1) := by decide +kernel
theorem dL_law_1464 : decode cL_law 1464 = .ok (.iaload, 1) := by decide +kernel
theorem dL_law_1465 : decode cL_law 1465 = .ok (.aload_n 0, 1) := by decide +kernel
theorem dL_law_1466 : decode cL_law 1466 = .ok (.iload_n 3, 1) := by decide +kernel
theorem dL_law_1467 : decode cL_law 1467 = .ok (.iconst 2, 1) := by decide +kernel
theorem dL_law_1468 : decode cL_law 1468 = .ok (.iadd, 1) := by decide +kernel
theorem dL_law_1469 : decode cL_law 1469 = .ok (.iaload, 1) := by decide +kernel
theorem dL_law_1470 : decode cL_law 1470 = .ok (.aload_n 0, 1) := by decide +kernel
theorem dL_law_1471 : decode cL_law 1471 = .ok (.iload_n 3, 1) := by decide +kernel
theorem dL_law_1472 : decode cL_law 1472 = .ok (.iconst 3, 1) := by decide +kernel
theorem dL_law_1473 : decode cL_law 1473 = .ok (.iadd, 1) := by decide +kernel
theorem dL_law_1474 : decode cL_law 1474 = .ok (.iaload, 1) := by decide +kernel
theorem dL_law_1475 : decode cL_law 1475 = .ok (.aload_n 0, 1) := by decide +kernel
theorem dL_law_1476 : decode cL_law 1476 = .ok (.iload_n 3, 1) := by decide +kernel
theorem dL_law_1477 : decode cL_law 1477 = .ok (.iconst 4, 1) := by decide +kernel
theorem dL_law_1478 : decode cL_law 1478 = .ok (.iadd, 1) := by decide +kernel
theorem dL_law_1479 : decode cL_law 1479 = .ok (.iaload, 1) := by decide +kernel
theorem dL_law_1480 : decode cL_law 1480 = .ok (.aload_n 0, 1) := by decide +kernel
theorem dL_law_1481 : decode cL_law 1481 = .ok (.iload_n 3, 1) := by decide +kernel
theorem dL_law_1482 : decode cL_law 1482 = .ok (.iconst 5, 1) := by decide +kernel
theorem dL_law_1483 : decode cL_law 1483 = .ok (.iadd, 1) := by decide +kernel
theorem dL_law_1484 : decode cL_law 1484 = .ok (.iaload, 1) := by decide +kernel
theorem dL_law_1485 : decode cL_law 1485 = .ok (.invokevirtual 172, 3) := by decide +kernel
theorem dL_law_1488 : decode cL_law 1488 = .ok (.if_icmp .eq 64, 3) := by decide +kernel
theorem dL_law_1491 : decode cL_law 1491 = .ok (.iconst 0, 1) := by decide +kernel
theorem dL_law_1492 : decode cL_law 1492 = .ok (.ireturn, 1) := by decide +kernel
theorem dL_law_1493 : decode cL_law 1493 = .ok (.aload_n 1, 1) := by decide +kernel
theorem dL_law_1494 : decode cL_law 1494 = .ok (.invokevirtual 173, 3) := by decide +kernel
theorem dL_law_1497 : decode cL_law 1497 = .ok (.aload_n 2, 1) := by decide +kernel
theorem dL_law_1498 : decode cL_law 1498 = .ok (.invokevirtual 176, 3) := by decide +kernel
theorem dL_law_1501 : decode cL_law 1501 = .ok (.if_icmp .eq 51, 3) := by decide +kernel
theorem dL_law_1504 : decode cL_law 1504 = .ok (.iconst 0, 1) := by decide +kernel
theorem dL_law_1505 : decode cL_law 1505 = .ok (.ireturn, 1) := by decide +kernel
theorem dL_law_1506 : decode cL_law 1506 = .ok (.aload_n 1, 1) := by decide +kernel
theorem dL_law_1507 : decode cL_law 1507 = .ok (.aload_n 0, 1) := by decide +kernel
theorem dL_law_1508 : decode cL_law 1508 = .ok (.iload_n 3, 1) := by decide +kernel
theorem dL_law_1509 : decode cL_law 1509 = .ok (.iconst 1, 1) := by decide +kernel
theorem dL_law_1510 : decode cL_law 1510 = .ok (.iadd, 1) := by decide +kernel
theorem dL_law_1511 : decode cL_law 1511 = .ok (.iaload, 1) := by decide +kernel
theorem dL_law_1512 : decode cL_law 1512 = .ok (.invokevirtual 177, 3) := by decide +kernel
theorem dL_law_1515 : decode cL_law 1515 = .ok (.aload_n 2, 1) := by decide +kernel
theorem dL_law_1516 : decode cL_law 1516 = .ok (.aload_n 0, 1) := by decide +kernel
theorem dL_law_1517 : decode cL_law 1517 = .ok (.iload_n 3, 1) := by decide +kernel
theorem dL_law_1518 : decode cL_law 1518 = .ok (.iconst 1, 1) := by decide +kernel
theorem dL_law_1519 : decode cL_law 1519 = .ok (.iadd, 1) := by decide +kernel
theorem dL_law_1520 : decode cL_law 1520 = .ok (.iaload, 1) := by decide +kernel
theorem dL_law_1521 : decode cL_law 1521 = .ok (.invokevirtual 180, 3) := by decide +kernel
theorem dL_law_1524 : decode cL_law 1524 = .ok (.if_icmp .eq 28, 3) := by decide +kernel
theorem dL_law_1527 : decode cL_law 1527 = .ok (.iconst 0, 1) := by decide +kernel
theorem dL_law_1528 : decode cL_law 1528 = .ok (.ireturn, 1) := by decide +kernel
theorem dL_law_1529 : decode cL_law 1529 = .ok (.aload_n 1, 1) := by decide +kernel
theorem dL_law_1530 : decode cL_law 1530 = .ok (.aload_n 0, 1) := by decide +kernel
theorem dL_law_1531 : decode cL_law 1531 = .ok (.iload_n 3, 1) := by decide +kernel
theorem dL_law_1532 : decode cL_law 1532 = .ok (.iconst 1, 1) := by decide +kernel
theorem dL_law_1533 : decode cL_law 1533 = .ok (.iadd, 1) := by decide +kernel
theorem dL_law_1534 : decode cL_law 1534 = .ok (.iaload, 1) := by decide +kernel
theorem dL_law_1535 : decode cL_law 1535 = .ok (.invokevirtual 181, 3) := by decide +kernel
theorem dL_law_1538 : decode cL_law 1538 = .ok (.aload_n 2, 1) := by decide +kernel
theorem dL_law_1539 : decode cL_law 1539 = .ok (.aload_n 0, 1) := by decide +kernel
theorem dL_law_1540 : decode cL_law 1540 = .ok (.iload_n 3, 1) := by decide +kernel
theorem dL_law_1541 : decode cL_law 1541 = .ok (.iconst 1, 1) := by decide +kernel
theorem dL_law_1542 : decode cL_law 1542 = .ok (.iadd, 1) := by decide +kernel
theorem dL_law_1543 : decode cL_law 1543 = .ok (.iaload, 1) := by decide +kernel
theorem dL_law_1544 : decode cL_law 1544 = .ok (.invokevirtual 184, 3) := by decide +kernel
theorem dL_law_1547 : decode cL_law 1547 = .ok (.if_icmp .eq 5, 3) := by decide +kernel
theorem dL_law_1550 : decode cL_law 1550 = .ok (.iconst 0, 1) := by decide +kernel
theorem dL_law_1551 : decode cL_law 1551 = .ok (.ireturn, 1) := by decide +kernel
theorem dL_law_1552 : decode cL_law 1552 = .ok (.iinc 3 7, 3) := by decide +kernel
theorem dL_law_1555 : decode cL_law 1555 = .ok (.goto (-1537), 3) := by decide +kernel
theorem dL_law_1558 : decode cL_law 1558 = .ok (.iconst 1, 1) := by decide +kernel
theorem dL_law_1559 : decode cL_law 1559 = .ok (.ireturn, 1) := by decide +kernel
def gL_law_208 (X : Scr) (s : Mem) (v3 : Int32) : Option (((Int32 × Mem) ⊕ Mem) ⊕ (Int32 × Mem)) :=
  gd (v3 + (1 : Int32)) X.1 (gd (v3 + (2 : Int32)) X.1 (gd (v3 + (3 : Int32)) X.1 (gd (v3 + (4 : Int32)) X.1 (gd (v3 + (5 : Int32)) X.1 (gd (v3 + (6 : Int32)) X.1 ((fX6_section s (X.2 (v3 + (1 : Int32)).toNatClampNeg) (X.2 (v3 + (2 : Int32)).toNatClampNeg) (X.2 (v3 + (3 : Int32)).toNatClampNeg) (X.2 (v3 + (4 : Int32)).toNatClampNeg) (X.2 (v3 + (5 : Int32)).toNatClampNeg) (X.2 (v3 + (6 : Int32)).toNatClampNeg)).bind (fun y9 => gd (v3 + (1 : Int32)) X.1 (gd (v3 + (2 : Int32)) X.1 (gd (v3 + (3 : Int32)) X.1 (gd (v3 + (4 : Int32)) X.1 (gd (v3 + (5 : Int32)) X.1 (gd (v3 + (6 : Int32)) X.1 ((fX7_section y9.2 (X.2 (v3 + (1 : Int32)).toNatClampNeg) (X.2 (v3 + (2 : Int32)).toNatClampNeg) (X.2 (v3 + (3 : Int32)).toNatClampNeg) (X.2 (v3 + (4 : Int32)).toNatClampNeg) (X.2 (v3 + (5 : Int32)).toNatClampNeg) (X.2 (v3 + (6 : Int32)).toNatClampNeg)).bind (fun y16 => if y9.1 = y16.1 then lt (v3 + (7 : Int32)) (fun x17 => some (Sum.inr (x17, y16.2))) else some (Sum.inl (Sum.inl (((0 : Int32), y16.2))))))))))))))))))
set_option maxRecDepth 4000 in
theorem jgL_law_208 (d : Nat) (X : Scr) (s : Mem) (v3 : Int32) {r : (((Int32 × Mem) ⊕ Mem) ⊕ (Int32 × Mem))} {w : Option Value} {s' : Mem} (hh : gL_law_208 X s v3 = some r) (hk : Sum.elim (Sum.elim (fun q : (Int32 × Mem) => w = some (.int q.1) ∧ q.2 = s') (fun t : Mem => J X ML_law (d + 16) 1558 [none, none, none, none] [] t w s')) (fun a : (Int32 × Mem) => J X ML_law (d + 16) 18 [some (.ref 2002), some (.ref 0), some (.ref 19), some (.int a.1)] [] a.2 w s') r) : J X ML_law (d + 16) 208 [some (.ref 2002), some (.ref 0), some (.ref 19), some (.int v3)] [] s w s' := by
  unfold gL_law_208 at hh
  refine J_aload_n (pc := 208) dL_law_208 rfl ?_
  refine J_aload_n (pc := 209) dL_law_209 rfl ?_
  refine J_iload_n (pc := 210) dL_law_210 rfl ?_
  refine J_iconst (pc := 211) dL_law_211 ci_1 ?_
  refine J_iadd (pc := 212) dL_law_212 ?_
  obtain ⟨h3, hh⟩ := gd_some hh
  refine J_cald (pc := 213) (f := X.2) dL_law_213 rfl h3 ?_
  refine J_aload_n (pc := 214) dL_law_214 rfl ?_
  refine J_iload_n (pc := 215) dL_law_215 rfl ?_
  refine J_iconst (pc := 216) dL_law_216 ci_2 ?_
  refine J_iadd (pc := 217) dL_law_217 ?_
  obtain ⟨h4, hh⟩ := gd_some hh
  refine J_cald (pc := 218) (f := X.2) dL_law_218 rfl h4 ?_
  refine J_aload_n (pc := 219) dL_law_219 rfl ?_
  refine J_iload_n (pc := 220) dL_law_220 rfl ?_
  refine J_iconst (pc := 221) dL_law_221 ci_3 ?_
  refine J_iadd (pc := 222) dL_law_222 ?_
  obtain ⟨h5, hh⟩ := gd_some hh
  refine J_cald (pc := 223) (f := X.2) dL_law_223 rfl h5 ?_
  refine J_aload_n (pc := 224) dL_law_224 rfl ?_
  refine J_iload_n (pc := 225) dL_law_225 rfl ?_
  refine J_iconst (pc := 226) dL_law_226 ci_4 ?_
  refine J_iadd (pc := 227) dL_law_227 ?_
  obtain ⟨h6, hh⟩ := gd_some hh
  refine J_cald (pc := 228) (f := X.2) dL_law_228 rfl h6 ?_
  refine J_aload_n (pc := 229) dL_law_229 rfl ?_
  refine J_iload_n (pc := 230) dL_law_230 rfl ?_
  refine J_iconst (pc := 231) dL_law_231 ci_5 ?_
  refine J_iadd (pc := 232) dL_law_232 ?_
  obtain ⟨h7, hh⟩ := gd_some hh
  refine J_cald (pc := 233) (f := X.2) dL_law_233 rfl h7 ?_
  refine J_aload_n (pc := 234) dL_law_234 rfl ?_
  refine J_iload_n (pc := 235) dL_law_235 rfl ?_
  refine J_bipush (pc := 236) dL_law_236 cb_6 ?_
  refine J_iadd (pc := 238) dL_law_238 ?_
  obtain ⟨h8, hh⟩ := gd_some hh
  refine J_cald (pc := 239) (f := X.2) dL_law_239 rfl h8 ?_
  obtain ⟨y9, hy9, hh⟩ := bd_some hh
  refine J_callVi (pc := 240) (M' := MX6_section) (a := 0) (rest := []) (As := [.int (X.2 (v3 + (1 : Int32)).toNatClampNeg), .int (X.2 (v3 + (2 : Int32)).toNatClampNeg), .int (X.2 (v3 + (3 : Int32)).toNatClampNeg), .int (X.2 (v3 + (4 : Int32)).toNatClampNeg), .int (X.2 (v3 + (5 : Int32)).toNatClampNeg), .int (X.2 (v3 + (6 : Int32)).toNatClampNeg)]) (L0 := [some (.ref 0), some (.int (X.2 (v3 + (1 : Int32)).toNatClampNeg)), some (.int (X.2 (v3 + (2 : Int32)).toNatClampNeg)), some (.int (X.2 (v3 + (3 : Int32)).toNatClampNeg)), some (.int (X.2 (v3 + (4 : Int32)).toNatClampNeg)), some (.int (X.2 (v3 + (5 : Int32)).toNatClampNeg)), some (.int (X.2 (v3 + (6 : Int32)).toNatClampNeg))]) okX6_section ovX6_section mlL_13 clX6 so0 rfl rfl (Nat.le_of_ble_eq_true rfl) dL_law_240 rfl (Nat.le_of_ble_eq_true rfl) (jX6_section (X := X) (d + 10) s (X.2 (v3 + (1 : Int32)).toNatClampNeg) (X.2 (v3 + (2 : Int32)).toNatClampNeg) (X.2 (v3 + (3 : Int32)).toNatClampNeg) (X.2 (v3 + (4 : Int32)).toNatClampNeg) (X.2 (v3 + (5 : Int32)).toNatClampNeg) (X.2 (v3 + (6 : Int32)).toNatClampNeg) hy9) ?_
  refine J_aload_n (pc := 243) dL_law_243 rfl ?_
  refine J_aload_n (pc := 244) dL_law_244 rfl ?_
  refine J_iload_n (pc := 245) dL_law_245 rfl ?_
  refine J_iconst (pc := 246) dL_law_246 ci_1 ?_
  refine J_iadd (pc := 247) dL_law_247 ?_
  obtain ⟨h10, hh⟩ := gd_some hh
  refine J_cald (pc := 248) (f := X.2) dL_law_248 rfl h10 ?_
  refine J_aload_n (pc := 249) dL_law_249 rfl ?_
  refine J_iload_n (pc := 250) dL_law_250 rfl ?_
  refine J_iconst (pc := 251) dL_law_251 ci_2 ?_
  refine J_iadd (pc := 252) dL_law_252 ?_
  obtain ⟨h11, hh⟩ := gd_some hh
  refine J_cald (pc := 253) (f := X.2) dL_law_253 rfl h11 ?_
  refine J_aload_n (pc := 254) dL_law_254 rfl ?_
  refine J_iload_n (pc := 255) dL_law_255 rfl ?_
  refine J_iconst (pc := 256) dL_law_256 ci_3 ?_
  refine J_iadd (pc := 257) dL_law_257 ?_
  obtain ⟨h12, hh⟩ := gd_some hh
  refine J_cald (pc := 258) (f := X.2) dL_law_258 rfl h12 ?_
  refine J_aload_n (pc := 259) dL_law_259 rfl ?_
  refine J_iload_n (pc := 260) dL_law_260 rfl ?_
  refine J_iconst (pc := 261) dL_law_261 ci_4 ?_
  refine J_iadd (pc := 262) dL_law_262 ?_
  obtain ⟨h13, hh⟩ := gd_some hh
  refine J_cald (pc := 263) (f := X.2) dL_law_263 rfl h13 ?_
  refine J_aload_n (pc := 264) dL_law_264 rfl ?_
  refine J_iload_n (pc := 265) dL_law_265 rfl ?_
  refine J_iconst (pc := 266) dL_law_266 ci_5 ?_
  refine J_iadd (pc := 267) dL_law_267 ?_
  obtain ⟨h14, hh⟩ := gd_some hh
  refine J_cald (pc := 268) (f := X.2) dL_law_268 rfl h14 ?_
  refine J_aload_n (pc := 269) dL_law_269 rfl ?_
  refine J_iload_n (pc := 270) dL_law_270 rfl ?_
  refine J_bipush (pc := 271) dL_law_271 cb_6 ?_
  refine J_iadd (pc := 273) dL_law_273 ?_
  obtain ⟨h15, hh⟩ := gd_some hh
  refine J_cald (pc := 274) (f := X.2) dL_law_274 rfl h15 ?_
  obtain ⟨y16, hy16, hh⟩ := bd_some hh
  refine J_callVi (pc := 275) (M' := MX7_section) (a := 19) (rest := [.int y9.1]) (As := [.int (X.2 (v3 + (1 : Int32)).toNatClampNeg), .int (X.2 (v3 + (2 : Int32)).toNatClampNeg), .int (X.2 (v3 + (3 : Int32)).toNatClampNeg), .int (X.2 (v3 + (4 : Int32)).toNatClampNeg), .int (X.2 (v3 + (5 : Int32)).toNatClampNeg), .int (X.2 (v3 + (6 : Int32)).toNatClampNeg)]) (L0 := [some (.ref 19), some (.int (X.2 (v3 + (1 : Int32)).toNatClampNeg)), some (.int (X.2 (v3 + (2 : Int32)).toNatClampNeg)), some (.int (X.2 (v3 + (3 : Int32)).toNatClampNeg)), some (.int (X.2 (v3 + (4 : Int32)).toNatClampNeg)), some (.int (X.2 (v3 + (5 : Int32)).toNatClampNeg)), some (.int (X.2 (v3 + (6 : Int32)).toNatClampNeg))]) okX7_section ovX7_section mlL_17 clX7 so19 rfl rfl (Nat.le_of_ble_eq_true rfl) dL_law_275 rfl (Nat.le_of_ble_eq_true rfl) (jX7_section (X := X) (d + 6) y9.2 (X.2 (v3 + (1 : Int32)).toNatClampNeg) (X.2 (v3 + (2 : Int32)).toNatClampNeg) (X.2 (v3 + (3 : Int32)).toNatClampNeg) (X.2 (v3 + (4 : Int32)).toNatClampNeg) (X.2 (v3 + (5 : Int32)).toNatClampNeg) (X.2 (v3 + (6 : Int32)).toNatClampNeg) hy16) ?_
  refine J_icmp_eq (pc := 278) 1552 dL_law_278 (by decide) (fun c18 => ?_) (fun c18 => ?_)
  · replace hh := (if_pos c18).symm.trans hh
    refine J_iincL (pc := 1552) (v := v3 + (7 : Int32)) (fun x17 => [some (.ref 2002), some (.ref 0), some (.ref 19), some (.int x17)]) dL_law_1552 rfl rfl (Nat.le_of_ble_eq_true rfl) (congrArg _ ci_7) (fun _ => rfl) hh (fun x17 hh => ?_)
    refine J_goto (pc := 1555) 18 dL_law_1555 (by decide) ?_
    obtain rfl := Option.some.inj hh
    exact hk
  · replace hh := (if_neg c18).symm.trans hh
    refine J_iconst (pc := 281) dL_law_281 ci_0 ?_
    obtain rfl := Option.some.inj hh
    obtain ⟨rfl, rfl⟩ := hk
    exact J_ret (w := some (.int (0 : Int32))) ⟨dL_law_282, _, rfl, rfl⟩
def gL_law_283 (X : Scr) (s : Mem) (v3 : Int32) : Option (((Int32 × Mem) ⊕ Mem) ⊕ (Int32 × Mem)) :=
  gd (v3 + (1 : Int32)) X.1 (gd (v3 + (2 : Int32)) X.1 (gd (v3 + (3 : Int32)) X.1 ((fX6_shut s (X.2 (v3 + (1 : Int32)).toNatClampNeg) (X.2 (v3 + (2 : Int32)).toNatClampNeg) (X.2 (v3 + (3 : Int32)).toNatClampNeg)).bind (fun y23 => gd (v3 + (1 : Int32)) X.1 (gd (v3 + (2 : Int32)) X.1 (gd (v3 + (3 : Int32)) X.1 ((fX7_shut y23.2 (X.2 (v3 + (1 : Int32)).toNatClampNeg) (X.2 (v3 + (2 : Int32)).toNatClampNeg) (X.2 (v3 + (3 : Int32)).toNatClampNeg)).bind (fun y27 => if y23.1 = y27.1 then lt (v3 + (7 : Int32)) (fun x28 => some (Sum.inr (x28, y27.2))) else some (Sum.inl (Sum.inl (((0 : Int32), y27.2))))))))))))
set_option maxRecDepth 4000 in
theorem jgL_law_283 (d : Nat) (X : Scr) (s : Mem) (v3 : Int32) {r : (((Int32 × Mem) ⊕ Mem) ⊕ (Int32 × Mem))} {w : Option Value} {s' : Mem} (hh : gL_law_283 X s v3 = some r) (hk : Sum.elim (Sum.elim (fun q : (Int32 × Mem) => w = some (.int q.1) ∧ q.2 = s') (fun t : Mem => J X ML_law (d + 16) 1558 [none, none, none, none] [] t w s')) (fun a : (Int32 × Mem) => J X ML_law (d + 16) 18 [some (.ref 2002), some (.ref 0), some (.ref 19), some (.int a.1)] [] a.2 w s') r) : J X ML_law (d + 16) 283 [some (.ref 2002), some (.ref 0), some (.ref 19), some (.int v3)] [] s w s' := by
  unfold gL_law_283 at hh
  refine J_aload_n (pc := 283) dL_law_283 rfl ?_
  refine J_aload_n (pc := 284) dL_law_284 rfl ?_
  refine J_iload_n (pc := 285) dL_law_285 rfl ?_
  refine J_iconst (pc := 286) dL_law_286 ci_1 ?_
  refine J_iadd (pc := 287) dL_law_287 ?_
  obtain ⟨h20, hh⟩ := gd_some hh
  refine J_cald (pc := 288) (f := X.2) dL_law_288 rfl h20 ?_
  refine J_aload_n (pc := 289) dL_law_289 rfl ?_
  refine J_iload_n (pc := 290) dL_law_290 rfl ?_
  refine J_iconst (pc := 291) dL_law_291 ci_2 ?_
  refine J_iadd (pc := 292) dL_law_292 ?_
  obtain ⟨h21, hh⟩ := gd_some hh
  refine J_cald (pc := 293) (f := X.2) dL_law_293 rfl h21 ?_
  refine J_aload_n (pc := 294) dL_law_294 rfl ?_
  refine J_iload_n (pc := 295) dL_law_295 rfl ?_
  refine J_iconst (pc := 296) dL_law_296 ci_3 ?_
  refine J_iadd (pc := 297) dL_law_297 ?_
  obtain ⟨h22, hh⟩ := gd_some hh
  refine J_cald (pc := 298) (f := X.2) dL_law_298 rfl h22 ?_
  obtain ⟨y23, hy23, hh⟩ := bd_some hh
  refine J_callVi (pc := 299) (M' := MX6_shut) (a := 0) (rest := []) (As := [.int (X.2 (v3 + (1 : Int32)).toNatClampNeg), .int (X.2 (v3 + (2 : Int32)).toNatClampNeg), .int (X.2 (v3 + (3 : Int32)).toNatClampNeg)]) (L0 := [some (.ref 0), some (.int (X.2 (v3 + (1 : Int32)).toNatClampNeg)), some (.int (X.2 (v3 + (2 : Int32)).toNatClampNeg)), some (.int (X.2 (v3 + (3 : Int32)).toNatClampNeg))]) okX6_shut ovX6_shut mlL_18 clX6 so0 rfl rfl (Nat.le_of_ble_eq_true rfl) dL_law_299 rfl (Nat.le_of_ble_eq_true rfl) (jX6_shut (X := X) (d + 10) s (X.2 (v3 + (1 : Int32)).toNatClampNeg) (X.2 (v3 + (2 : Int32)).toNatClampNeg) (X.2 (v3 + (3 : Int32)).toNatClampNeg) hy23) ?_
  refine J_aload_n (pc := 302) dL_law_302 rfl ?_
  refine J_aload_n (pc := 303) dL_law_303 rfl ?_
  refine J_iload_n (pc := 304) dL_law_304 rfl ?_
  refine J_iconst (pc := 305) dL_law_305 ci_1 ?_
  refine J_iadd (pc := 306) dL_law_306 ?_
  obtain ⟨h24, hh⟩ := gd_some hh
  refine J_cald (pc := 307) (f := X.2) dL_law_307 rfl h24 ?_
  refine J_aload_n (pc := 308) dL_law_308 rfl ?_
  refine J_iload_n (pc := 309) dL_law_309 rfl ?_
  refine J_iconst (pc := 310) dL_law_310 ci_2 ?_
  refine J_iadd (pc := 311) dL_law_311 ?_
  obtain ⟨h25, hh⟩ := gd_some hh
  refine J_cald (pc := 312) (f := X.2) dL_law_312 rfl h25 ?_
  refine J_aload_n (pc := 313) dL_law_313 rfl ?_
  refine J_iload_n (pc := 314) dL_law_314 rfl ?_
  refine J_iconst (pc := 315) dL_law_315 ci_3 ?_
  refine J_iadd (pc := 316) dL_law_316 ?_
  obtain ⟨h26, hh⟩ := gd_some hh
  refine J_cald (pc := 317) (f := X.2) dL_law_317 rfl h26 ?_
  obtain ⟨y27, hy27, hh⟩ := bd_some hh
  refine J_callVi (pc := 318) (M' := MX7_shut) (a := 19) (rest := [.int y23.1]) (As := [.int (X.2 (v3 + (1 : Int32)).toNatClampNeg), .int (X.2 (v3 + (2 : Int32)).toNatClampNeg), .int (X.2 (v3 + (3 : Int32)).toNatClampNeg)]) (L0 := [some (.ref 19), some (.int (X.2 (v3 + (1 : Int32)).toNatClampNeg)), some (.int (X.2 (v3 + (2 : Int32)).toNatClampNeg)), some (.int (X.2 (v3 + (3 : Int32)).toNatClampNeg)), none, none]) okX7_shut ovX7_shut mlL_22 clX7 so19 rfl rfl (Nat.le_of_ble_eq_true rfl) dL_law_318 rfl (Nat.le_of_ble_eq_true rfl) (jX7_shut (X := X) (d + 10) y23.2 (X.2 (v3 + (1 : Int32)).toNatClampNeg) (X.2 (v3 + (2 : Int32)).toNatClampNeg) (X.2 (v3 + (3 : Int32)).toNatClampNeg) hy27) ?_
  refine J_icmp_eq (pc := 321) 1552 dL_law_321 (by decide) (fun c29 => ?_) (fun c29 => ?_)
  · replace hh := (if_pos c29).symm.trans hh
    refine J_iincL (pc := 1552) (v := v3 + (7 : Int32)) (fun x28 => [some (.ref 2002), some (.ref 0), some (.ref 19), some (.int x28)]) dL_law_1552 rfl rfl (Nat.le_of_ble_eq_true rfl) (congrArg _ ci_7) (fun _ => rfl) hh (fun x28 hh => ?_)
    refine J_goto (pc := 1555) 18 dL_law_1555 (by decide) ?_
    obtain rfl := Option.some.inj hh
    exact hk
  · replace hh := (if_neg c29).symm.trans hh
    refine J_iconst (pc := 324) dL_law_324 ci_0 ?_
    obtain rfl := Option.some.inj hh
    obtain ⟨rfl, rfl⟩ := hk
    exact J_ret (w := some (.int (0 : Int32))) ⟨dL_law_325, _, rfl, rfl⟩
def gL_law_326 (X : Scr) (s : Mem) (v3 : Int32) : Option (((Int32 × Mem) ⊕ Mem) ⊕ (Int32 × Mem)) :=
  gd (v3 + (1 : Int32)) X.1 (gd (v3 + (2 : Int32)) X.1 (gd (v3 + (3 : Int32)) X.1 (gd (v3 + (4 : Int32)) X.1 ((fX6_of s (X.2 (v3 + (1 : Int32)).toNatClampNeg) (X.2 (v3 + (2 : Int32)).toNatClampNeg) (X.2 (v3 + (3 : Int32)).toNatClampNeg) (X.2 (v3 + (4 : Int32)).toNatClampNeg)).bind (fun y35 => gd (v3 + (1 : Int32)) X.1 (gd (v3 + (2 : Int32)) X.1 (gd (v3 + (3 : Int32)) X.1 (gd (v3 + (4 : Int32)) X.1 ((fX7_of y35.2 (X.2 (v3 + (1 : Int32)).toNatClampNeg) (X.2 (v3 + (2 : Int32)).toNatClampNeg) (X.2 (v3 + (3 : Int32)).toNatClampNeg) (X.2 (v3 + (4 : Int32)).toNatClampNeg)).bind (fun y40 => if y35.1 = y40.1 then lt (v3 + (7 : Int32)) (fun x41 => some (Sum.inr (x41, y40.2))) else some (Sum.inl (Sum.inl (((0 : Int32), y40.2))))))))))))))
set_option maxRecDepth 4000 in
theorem jgL_law_326 (d : Nat) (X : Scr) (s : Mem) (v3 : Int32) {r : (((Int32 × Mem) ⊕ Mem) ⊕ (Int32 × Mem))} {w : Option Value} {s' : Mem} (hh : gL_law_326 X s v3 = some r) (hk : Sum.elim (Sum.elim (fun q : (Int32 × Mem) => w = some (.int q.1) ∧ q.2 = s') (fun t : Mem => J X ML_law (d + 16) 1558 [none, none, none, none] [] t w s')) (fun a : (Int32 × Mem) => J X ML_law (d + 16) 18 [some (.ref 2002), some (.ref 0), some (.ref 19), some (.int a.1)] [] a.2 w s') r) : J X ML_law (d + 16) 326 [some (.ref 2002), some (.ref 0), some (.ref 19), some (.int v3)] [] s w s' := by
  unfold gL_law_326 at hh
  refine J_aload_n (pc := 326) dL_law_326 rfl ?_
  refine J_aload_n (pc := 327) dL_law_327 rfl ?_
  refine J_iload_n (pc := 328) dL_law_328 rfl ?_
  refine J_iconst (pc := 329) dL_law_329 ci_1 ?_
  refine J_iadd (pc := 330) dL_law_330 ?_
  obtain ⟨h31, hh⟩ := gd_some hh
  refine J_cald (pc := 331) (f := X.2) dL_law_331 rfl h31 ?_
  refine J_aload_n (pc := 332) dL_law_332 rfl ?_
  refine J_iload_n (pc := 333) dL_law_333 rfl ?_
  refine J_iconst (pc := 334) dL_law_334 ci_2 ?_
  refine J_iadd (pc := 335) dL_law_335 ?_
  obtain ⟨h32, hh⟩ := gd_some hh
  refine J_cald (pc := 336) (f := X.2) dL_law_336 rfl h32 ?_
  refine J_aload_n (pc := 337) dL_law_337 rfl ?_
  refine J_iload_n (pc := 338) dL_law_338 rfl ?_
  refine J_iconst (pc := 339) dL_law_339 ci_3 ?_
  refine J_iadd (pc := 340) dL_law_340 ?_
  obtain ⟨h33, hh⟩ := gd_some hh
  refine J_cald (pc := 341) (f := X.2) dL_law_341 rfl h33 ?_
  refine J_aload_n (pc := 342) dL_law_342 rfl ?_
  refine J_iload_n (pc := 343) dL_law_343 rfl ?_
  refine J_iconst (pc := 344) dL_law_344 ci_4 ?_
  refine J_iadd (pc := 345) dL_law_345 ?_
  obtain ⟨h34, hh⟩ := gd_some hh
  refine J_cald (pc := 346) (f := X.2) dL_law_346 rfl h34 ?_
  obtain ⟨y35, hy35, hh⟩ := bd_some hh
  refine J_callVi (pc := 347) (M' := MX6_of) (a := 0) (rest := []) (As := [.int (X.2 (v3 + (1 : Int32)).toNatClampNeg), .int (X.2 (v3 + (2 : Int32)).toNatClampNeg), .int (X.2 (v3 + (3 : Int32)).toNatClampNeg), .int (X.2 (v3 + (4 : Int32)).toNatClampNeg)]) (L0 := [some (.ref 0), some (.int (X.2 (v3 + (1 : Int32)).toNatClampNeg)), some (.int (X.2 (v3 + (2 : Int32)).toNatClampNeg)), some (.int (X.2 (v3 + (3 : Int32)).toNatClampNeg)), some (.int (X.2 (v3 + (4 : Int32)).toNatClampNeg)), none, none]) okX6_of ovX6_of mlL_23 clX6 so0 rfl rfl (Nat.le_of_ble_eq_true rfl) dL_law_347 rfl (Nat.le_of_ble_eq_true rfl) (jX6_of (X := X) (d + 12) s (X.2 (v3 + (1 : Int32)).toNatClampNeg) (X.2 (v3 + (2 : Int32)).toNatClampNeg) (X.2 (v3 + (3 : Int32)).toNatClampNeg) (X.2 (v3 + (4 : Int32)).toNatClampNeg) hy35) ?_
  refine J_aload_n (pc := 350) dL_law_350 rfl ?_
  refine J_aload_n (pc := 351) dL_law_351 rfl ?_
  refine J_iload_n (pc := 352) dL_law_352 rfl ?_
  refine J_iconst (pc := 353) dL_law_353 ci_1 ?_
  refine J_iadd (pc := 354) dL_law_354 ?_
  obtain ⟨h36, hh⟩ := gd_some hh
  refine J_cald (pc := 355) (f := X.2) dL_law_355 rfl h36 ?_
  refine J_aload_n (pc := 356) dL_law_356 rfl ?_
  refine J_iload_n (pc := 357) dL_law_357 rfl ?_
  refine J_iconst (pc := 358) dL_law_358 ci_2 ?_
  refine J_iadd (pc := 359) dL_law_359 ?_
  obtain ⟨h37, hh⟩ := gd_some hh
  refine J_cald (pc := 360) (f := X.2) dL_law_360 rfl h37 ?_
  refine J_aload_n (pc := 361) dL_law_361 rfl ?_
  refine J_iload_n (pc := 362) dL_law_362 rfl ?_
  refine J_iconst (pc := 363) dL_law_363 ci_3 ?_
  refine J_iadd (pc := 364) dL_law_364 ?_
  obtain ⟨h38, hh⟩ := gd_some hh
  refine J_cald (pc := 365) (f := X.2) dL_law_365 rfl h38 ?_
  refine J_aload_n (pc := 366) dL_law_366 rfl ?_
  refine J_iload_n (pc := 367) dL_law_367 rfl ?_
  refine J_iconst (pc := 368) dL_law_368 ci_4 ?_
  refine J_iadd (pc := 369) dL_law_369 ?_
  obtain ⟨h39, hh⟩ := gd_some hh
  refine J_cald (pc := 370) (f := X.2) dL_law_370 rfl h39 ?_
  obtain ⟨y40, hy40, hh⟩ := bd_some hh
  refine J_callVi (pc := 371) (M' := MX7_of) (a := 19) (rest := [.int y35.1]) (As := [.int (X.2 (v3 + (1 : Int32)).toNatClampNeg), .int (X.2 (v3 + (2 : Int32)).toNatClampNeg), .int (X.2 (v3 + (3 : Int32)).toNatClampNeg), .int (X.2 (v3 + (4 : Int32)).toNatClampNeg)]) (L0 := [some (.ref 19), some (.int (X.2 (v3 + (1 : Int32)).toNatClampNeg)), some (.int (X.2 (v3 + (2 : Int32)).toNatClampNeg)), some (.int (X.2 (v3 + (3 : Int32)).toNatClampNeg)), some (.int (X.2 (v3 + (4 : Int32)).toNatClampNeg)), none]) okX7_of ovX7_of mlL_27 clX7 so19 rfl rfl (Nat.le_of_ble_eq_true rfl) dL_law_371 rfl (Nat.le_of_ble_eq_true rfl) (jX7_of (X := X) (d + 11) y35.2 (X.2 (v3 + (1 : Int32)).toNatClampNeg) (X.2 (v3 + (2 : Int32)).toNatClampNeg) (X.2 (v3 + (3 : Int32)).toNatClampNeg) (X.2 (v3 + (4 : Int32)).toNatClampNeg) hy40) ?_
  refine J_icmp_eq (pc := 374) 1552 dL_law_374 (by decide) (fun c42 => ?_) (fun c42 => ?_)
  · replace hh := (if_pos c42).symm.trans hh
    refine J_iincL (pc := 1552) (v := v3 + (7 : Int32)) (fun x41 => [some (.ref 2002), some (.ref 0), some (.ref 19), some (.int x41)]) dL_law_1552 rfl rfl (Nat.le_of_ble_eq_true rfl) (congrArg _ ci_7) (fun _ => rfl) hh (fun x41 hh => ?_)
    refine J_goto (pc := 1555) 18 dL_law_1555 (by decide) ?_
    obtain rfl := Option.some.inj hh
    exact hk
  · replace hh := (if_neg c42).symm.trans hh
    refine J_iconst (pc := 377) dL_law_377 ci_0 ?_
    obtain rfl := Option.some.inj hh
    obtain ⟨rfl, rfl⟩ := hk
    exact J_ret (w := some (.int (0 : Int32))) ⟨dL_law_378, _, rfl, rfl⟩
def gL_law_379 (X : Scr) (s : Mem) (v3 : Int32) : Option (((Int32 × Mem) ⊕ Mem) ⊕ (Int32 × Mem)) :=
  gd (v3 + (1 : Int32)) X.1 ((fX6_triples s (X.2 (v3 + (1 : Int32)).toNatClampNeg)).bind (fun y45 => gd (v3 + (1 : Int32)) X.1 ((fX7_triples y45.2 (X.2 (v3 + (1 : Int32)).toNatClampNeg)).bind (fun y47 => if y45.1 = y47.1 then lt (v3 + (7 : Int32)) (fun x48 => some (Sum.inr (x48, y47.2))) else some (Sum.inl (Sum.inl (((0 : Int32), y47.2))))))))
set_option maxRecDepth 4000 in
theorem jgL_law_379 (d : Nat) (X : Scr) (s : Mem) (v3 : Int32) {r : (((Int32 × Mem) ⊕ Mem) ⊕ (Int32 × Mem))} {w : Option Value} {s' : Mem} (hh : gL_law_379 X s v3 = some r) (hk : Sum.elim (Sum.elim (fun q : (Int32 × Mem) => w = some (.int q.1) ∧ q.2 = s') (fun t : Mem => J X ML_law (d + 16) 1558 [none, none, none, none] [] t w s')) (fun a : (Int32 × Mem) => J X ML_law (d + 16) 18 [some (.ref 2002), some (.ref 0), some (.ref 19), some (.int a.1)] [] a.2 w s') r) : J X ML_law (d + 16) 379 [some (.ref 2002), some (.ref 0), some (.ref 19), some (.int v3)] [] s w s' := by
  unfold gL_law_379 at hh
  refine J_aload_n (pc := 379) dL_law_379 rfl ?_
  refine J_aload_n (pc := 380) dL_law_380 rfl ?_
  refine J_iload_n (pc := 381) dL_law_381 rfl ?_
  refine J_iconst (pc := 382) dL_law_382 ci_1 ?_
  refine J_iadd (pc := 383) dL_law_383 ?_
  obtain ⟨h44, hh⟩ := gd_some hh
  refine J_cald (pc := 384) (f := X.2) dL_law_384 rfl h44 ?_
  obtain ⟨y45, hy45, hh⟩ := bd_some hh
  refine J_callVi (pc := 385) (M' := MX6_triples) (a := 0) (rest := []) (As := [.int (X.2 (v3 + (1 : Int32)).toNatClampNeg)]) (L0 := [some (.ref 0), some (.int (X.2 (v3 + (1 : Int32)).toNatClampNeg))]) okX6_triples ovX6_triples mlL_28 clX6 so0 rfl rfl (Nat.le_of_ble_eq_true rfl) dL_law_385 rfl (Nat.le_of_ble_eq_true rfl) (jX6_triples (X := X) (d + 13) s (X.2 (v3 + (1 : Int32)).toNatClampNeg) hy45) ?_
  refine J_aload_n (pc := 388) dL_law_388 rfl ?_
  refine J_aload_n (pc := 389) dL_law_389 rfl ?_
  refine J_iload_n (pc := 390) dL_law_390 rfl ?_
  refine J_iconst (pc := 391) dL_law_391 ci_1 ?_
  refine J_iadd (pc := 392) dL_law_392 ?_
  obtain ⟨h46, hh⟩ := gd_some hh
  refine J_cald (pc := 393) (f := X.2) dL_law_393 rfl h46 ?_
  obtain ⟨y47, hy47, hh⟩ := bd_some hh
  refine J_callVi (pc := 394) (M' := MX7_triples) (a := 19) (rest := [.int y45.1]) (As := [.int (X.2 (v3 + (1 : Int32)).toNatClampNeg)]) (L0 := [some (.ref 19), some (.int (X.2 (v3 + (1 : Int32)).toNatClampNeg))]) okX7_triples ovX7_triples mlL_32 clX7 so19 rfl rfl (Nat.le_of_ble_eq_true rfl) dL_law_394 rfl (Nat.le_of_ble_eq_true rfl) (jX7_triples (X := X) (d + 9) y45.2 (X.2 (v3 + (1 : Int32)).toNatClampNeg) hy47) ?_
  refine J_icmp_eq (pc := 397) 1552 dL_law_397 (by decide) (fun c49 => ?_) (fun c49 => ?_)
  · replace hh := (if_pos c49).symm.trans hh
    refine J_iincL (pc := 1552) (v := v3 + (7 : Int32)) (fun x48 => [some (.ref 2002), some (.ref 0), some (.ref 19), some (.int x48)]) dL_law_1552 rfl rfl (Nat.le_of_ble_eq_true rfl) (congrArg _ ci_7) (fun _ => rfl) hh (fun x48 hh => ?_)
    refine J_goto (pc := 1555) 18 dL_law_1555 (by decide) ?_
    obtain rfl := Option.some.inj hh
    exact hk
  · replace hh := (if_neg c49).symm.trans hh
    refine J_iconst (pc := 400) dL_law_400 ci_0 ?_
    obtain rfl := Option.some.inj hh
    obtain ⟨rfl, rfl⟩ := hk
    exact J_ret (w := some (.int (0 : Int32))) ⟨dL_law_401, _, rfl, rfl⟩
def gL_law_402 (X : Scr) (s : Mem) (v3 : Int32) : Option (((Int32 × Mem) ⊕ Mem) ⊕ (Int32 × Mem)) :=
  gd (v3 + (1 : Int32)) X.1 (gd (v3 + (2 : Int32)) X.1 ((fX6_time s (X.2 (v3 + (1 : Int32)).toNatClampNeg) (X.2 (v3 + (2 : Int32)).toNatClampNeg)).bind (fun y53 => gd (v3 + (1 : Int32)) X.1 (gd (v3 + (2 : Int32)) X.1 ((fX7_time y53.2 (X.2 (v3 + (1 : Int32)).toNatClampNeg) (X.2 (v3 + (2 : Int32)).toNatClampNeg)).bind (fun y56 => if y53.1 = y56.1 then lt (v3 + (7 : Int32)) (fun x57 => some (Sum.inr (x57, y56.2))) else some (Sum.inl (Sum.inl (((0 : Int32), y56.2))))))))))
set_option maxRecDepth 4000 in
theorem jgL_law_402 (d : Nat) (X : Scr) (s : Mem) (v3 : Int32) {r : (((Int32 × Mem) ⊕ Mem) ⊕ (Int32 × Mem))} {w : Option Value} {s' : Mem} (hh : gL_law_402 X s v3 = some r) (hk : Sum.elim (Sum.elim (fun q : (Int32 × Mem) => w = some (.int q.1) ∧ q.2 = s') (fun t : Mem => J X ML_law (d + 16) 1558 [none, none, none, none] [] t w s')) (fun a : (Int32 × Mem) => J X ML_law (d + 16) 18 [some (.ref 2002), some (.ref 0), some (.ref 19), some (.int a.1)] [] a.2 w s') r) : J X ML_law (d + 16) 402 [some (.ref 2002), some (.ref 0), some (.ref 19), some (.int v3)] [] s w s' := by
  unfold gL_law_402 at hh
  refine J_aload_n (pc := 402) dL_law_402 rfl ?_
  refine J_aload_n (pc := 403) dL_law_403 rfl ?_
  refine J_iload_n (pc := 404) dL_law_404 rfl ?_
  refine J_iconst (pc := 405) dL_law_405 ci_1 ?_
  refine J_iadd (pc := 406) dL_law_406 ?_
  obtain ⟨h51, hh⟩ := gd_some hh
  refine J_cald (pc := 407) (f := X.2) dL_law_407 rfl h51 ?_
  refine J_aload_n (pc := 408) dL_law_408 rfl ?_
  refine J_iload_n (pc := 409) dL_law_409 rfl ?_
  refine J_iconst (pc := 410) dL_law_410 ci_2 ?_
  refine J_iadd (pc := 411) dL_law_411 ?_
  obtain ⟨h52, hh⟩ := gd_some hh
  refine J_cald (pc := 412) (f := X.2) dL_law_412 rfl h52 ?_
  obtain ⟨y53, hy53, hh⟩ := bd_some hh
  refine J_callVi (pc := 413) (M' := MX6_time) (a := 0) (rest := []) (As := [.int (X.2 (v3 + (1 : Int32)).toNatClampNeg), .int (X.2 (v3 + (2 : Int32)).toNatClampNeg)]) (L0 := [some (.ref 0), some (.int (X.2 (v3 + (1 : Int32)).toNatClampNeg)), some (.int (X.2 (v3 + (2 : Int32)).toNatClampNeg)), none]) okX6_time ovX6_time mlL_33 clX6 so0 rfl rfl (Nat.le_of_ble_eq_true rfl) dL_law_413 rfl (Nat.le_of_ble_eq_true rfl) (jX6_time (X := X) (d + 13) s (X.2 (v3 + (1 : Int32)).toNatClampNeg) (X.2 (v3 + (2 : Int32)).toNatClampNeg) hy53) ?_
  refine J_aload_n (pc := 416) dL_law_416 rfl ?_
  refine J_aload_n (pc := 417) dL_law_417 rfl ?_
  refine J_iload_n (pc := 418) dL_law_418 rfl ?_
  refine J_iconst (pc := 419) dL_law_419 ci_1 ?_
  refine J_iadd (pc := 420) dL_law_420 ?_
  obtain ⟨h54, hh⟩ := gd_some hh
  refine J_cald (pc := 421) (f := X.2) dL_law_421 rfl h54 ?_
  refine J_aload_n (pc := 422) dL_law_422 rfl ?_
  refine J_iload_n (pc := 423) dL_law_423 rfl ?_
  refine J_iconst (pc := 424) dL_law_424 ci_2 ?_
  refine J_iadd (pc := 425) dL_law_425 ?_
  obtain ⟨h55, hh⟩ := gd_some hh
  refine J_cald (pc := 426) (f := X.2) dL_law_426 rfl h55 ?_
  obtain ⟨y56, hy56, hh⟩ := bd_some hh
  refine J_callVi (pc := 427) (M' := MX7_time) (a := 19) (rest := [.int y53.1]) (As := [.int (X.2 (v3 + (1 : Int32)).toNatClampNeg), .int (X.2 (v3 + (2 : Int32)).toNatClampNeg)]) (L0 := [some (.ref 19), some (.int (X.2 (v3 + (1 : Int32)).toNatClampNeg)), some (.int (X.2 (v3 + (2 : Int32)).toNatClampNeg))]) okX7_time ovX7_time mlL_37 clX7 so19 rfl rfl (Nat.le_of_ble_eq_true rfl) dL_law_427 rfl (Nat.le_of_ble_eq_true rfl) (jX7_time (X := X) (d + 10) y53.2 (X.2 (v3 + (1 : Int32)).toNatClampNeg) (X.2 (v3 + (2 : Int32)).toNatClampNeg) hy56) ?_
  refine J_icmp_eq (pc := 430) 1552 dL_law_430 (by decide) (fun c58 => ?_) (fun c58 => ?_)
  · replace hh := (if_pos c58).symm.trans hh
    refine J_iincL (pc := 1552) (v := v3 + (7 : Int32)) (fun x57 => [some (.ref 2002), some (.ref 0), some (.ref 19), some (.int x57)]) dL_law_1552 rfl rfl (Nat.le_of_ble_eq_true rfl) (congrArg _ ci_7) (fun _ => rfl) hh (fun x57 hh => ?_)
    refine J_goto (pc := 1555) 18 dL_law_1555 (by decide) ?_
    obtain rfl := Option.some.inj hh
    exact hk
  · replace hh := (if_neg c58).symm.trans hh
    refine J_iconst (pc := 433) dL_law_433 ci_0 ?_
    obtain rfl := Option.some.inj hh
    obtain ⟨rfl, rfl⟩ := hk
    exact J_ret (w := some (.int (0 : Int32))) ⟨dL_law_434, _, rfl, rfl⟩
def gL_law_435 (X : Scr) (s : Mem) (v3 : Int32) : Option (((Int32 × Mem) ⊕ Mem) ⊕ (Int32 × Mem)) :=
  gd (v3 + (1 : Int32)) X.1 ((fX6_uneven s (X.2 (v3 + (1 : Int32)).toNatClampNeg)).bind (fun y61 => gd (v3 + (1 : Int32)) X.1 ((fX7_uneven y61.2 (X.2 (v3 + (1 : Int32)).toNatClampNeg)).bind (fun y63 => if y61.1 = y63.1 then lt (v3 + (7 : Int32)) (fun x64 => some (Sum.inr (x64, y63.2))) else some (Sum.inl (Sum.inl (((0 : Int32), y63.2))))))))
set_option maxRecDepth 4000 in
theorem jgL_law_435 (d : Nat) (X : Scr) (s : Mem) (v3 : Int32) {r : (((Int32 × Mem) ⊕ Mem) ⊕ (Int32 × Mem))} {w : Option Value} {s' : Mem} (hh : gL_law_435 X s v3 = some r) (hk : Sum.elim (Sum.elim (fun q : (Int32 × Mem) => w = some (.int q.1) ∧ q.2 = s') (fun t : Mem => J X ML_law (d + 16) 1558 [none, none, none, none] [] t w s')) (fun a : (Int32 × Mem) => J X ML_law (d + 16) 18 [some (.ref 2002), some (.ref 0), some (.ref 19), some (.int a.1)] [] a.2 w s') r) : J X ML_law (d + 16) 435 [some (.ref 2002), some (.ref 0), some (.ref 19), some (.int v3)] [] s w s' := by
  unfold gL_law_435 at hh
  refine J_aload_n (pc := 435) dL_law_435 rfl ?_
  refine J_aload_n (pc := 436) dL_law_436 rfl ?_
  refine J_iload_n (pc := 437) dL_law_437 rfl ?_
  refine J_iconst (pc := 438) dL_law_438 ci_1 ?_
  refine J_iadd (pc := 439) dL_law_439 ?_
  obtain ⟨h60, hh⟩ := gd_some hh
  refine J_cald (pc := 440) (f := X.2) dL_law_440 rfl h60 ?_
  obtain ⟨y61, hy61, hh⟩ := bd_some hh
  refine J_callVi (pc := 441) (M' := MX6_uneven) (a := 0) (rest := []) (As := [.int (X.2 (v3 + (1 : Int32)).toNatClampNeg)]) (L0 := [some (.ref 0), some (.int (X.2 (v3 + (1 : Int32)).toNatClampNeg))]) okX6_uneven ovX6_uneven mlL_38 clX6 so0 rfl rfl (Nat.le_of_ble_eq_true rfl) dL_law_441 rfl (Nat.le_of_ble_eq_true rfl) (jX6_uneven (X := X) (d + 12) s (X.2 (v3 + (1 : Int32)).toNatClampNeg) hy61) ?_
  refine J_aload_n (pc := 444) dL_law_444 rfl ?_
  refine J_aload_n (pc := 445) dL_law_445 rfl ?_
  refine J_iload_n (pc := 446) dL_law_446 rfl ?_
  refine J_iconst (pc := 447) dL_law_447 ci_1 ?_
  refine J_iadd (pc := 448) dL_law_448 ?_
  obtain ⟨h62, hh⟩ := gd_some hh
  refine J_cald (pc := 449) (f := X.2) dL_law_449 rfl h62 ?_
  obtain ⟨y63, hy63, hh⟩ := bd_some hh
  refine J_callVi (pc := 450) (M' := MX7_uneven) (a := 19) (rest := [.int y61.1]) (As := [.int (X.2 (v3 + (1 : Int32)).toNatClampNeg)]) (L0 := [some (.ref 19), some (.int (X.2 (v3 + (1 : Int32)).toNatClampNeg))]) okX7_uneven ovX7_uneven mlL_41 clX7 so19 rfl rfl (Nat.le_of_ble_eq_true rfl) dL_law_450 rfl (Nat.le_of_ble_eq_true rfl) (jX7_uneven (X := X) (d + 10) y61.2 (X.2 (v3 + (1 : Int32)).toNatClampNeg) hy63) ?_
  refine J_icmp_eq (pc := 453) 1552 dL_law_453 (by decide) (fun c65 => ?_) (fun c65 => ?_)
  · replace hh := (if_pos c65).symm.trans hh
    refine J_iincL (pc := 1552) (v := v3 + (7 : Int32)) (fun x64 => [some (.ref 2002), some (.ref 0), some (.ref 19), some (.int x64)]) dL_law_1552 rfl rfl (Nat.le_of_ble_eq_true rfl) (congrArg _ ci_7) (fun _ => rfl) hh (fun x64 hh => ?_)
    refine J_goto (pc := 1555) 18 dL_law_1555 (by decide) ?_
    obtain rfl := Option.some.inj hh
    exact hk
  · replace hh := (if_neg c65).symm.trans hh
    refine J_iconst (pc := 456) dL_law_456 ci_0 ?_
    obtain rfl := Option.some.inj hh
    obtain ⟨rfl, rfl⟩ := hk
    exact J_ret (w := some (.int (0 : Int32))) ⟨dL_law_457, _, rfl, rfl⟩
def gL_law_458 (X : Scr) (s : Mem) (v3 : Int32) : Option (((Int32 × Mem) ⊕ Mem) ⊕ (Int32 × Mem)) :=
  gd (v3 + (1 : Int32)) X.1 (gd (v3 + (2 : Int32)) X.1 (gd (v3 + (3 : Int32)) X.1 ((fX6_pupil s (X.2 (v3 + (1 : Int32)).toNatClampNeg) (X.2 (v3 + (2 : Int32)).toNatClampNeg) (X.2 (v3 + (3 : Int32)).toNatClampNeg)).bind (fun y70 => gd (v3 + (1 : Int32)) X.1 (gd (v3 + (2 : Int32)) X.1 (gd (v3 + (3 : Int32)) X.1 ((fX7_pupil y70.2 (X.2 (v3 + (1 : Int32)).toNatClampNeg) (X.2 (v3 + (2 : Int32)).toNatClampNeg) (X.2 (v3 + (3 : Int32)).toNatClampNeg)).bind (fun y74 => if y70.1 = y74.1 then lt (v3 + (7 : Int32)) (fun x75 => some (Sum.inr (x75, y74.2))) else some (Sum.inl (Sum.inl (((0 : Int32), y74.2))))))))))))
set_option maxRecDepth 4000 in
theorem jgL_law_458 (d : Nat) (X : Scr) (s : Mem) (v3 : Int32) {r : (((Int32 × Mem) ⊕ Mem) ⊕ (Int32 × Mem))} {w : Option Value} {s' : Mem} (hh : gL_law_458 X s v3 = some r) (hk : Sum.elim (Sum.elim (fun q : (Int32 × Mem) => w = some (.int q.1) ∧ q.2 = s') (fun t : Mem => J X ML_law (d + 16) 1558 [none, none, none, none] [] t w s')) (fun a : (Int32 × Mem) => J X ML_law (d + 16) 18 [some (.ref 2002), some (.ref 0), some (.ref 19), some (.int a.1)] [] a.2 w s') r) : J X ML_law (d + 16) 458 [some (.ref 2002), some (.ref 0), some (.ref 19), some (.int v3)] [] s w s' := by
  unfold gL_law_458 at hh
  refine J_aload_n (pc := 458) dL_law_458 rfl ?_
  refine J_aload_n (pc := 459) dL_law_459 rfl ?_
  refine J_iload_n (pc := 460) dL_law_460 rfl ?_
  refine J_iconst (pc := 461) dL_law_461 ci_1 ?_
  refine J_iadd (pc := 462) dL_law_462 ?_
  obtain ⟨h67, hh⟩ := gd_some hh
  refine J_cald (pc := 463) (f := X.2) dL_law_463 rfl h67 ?_
  refine J_aload_n (pc := 464) dL_law_464 rfl ?_
  refine J_iload_n (pc := 465) dL_law_465 rfl ?_
  refine J_iconst (pc := 466) dL_law_466 ci_2 ?_
  refine J_iadd (pc := 467) dL_law_467 ?_
  obtain ⟨h68, hh⟩ := gd_some hh
  refine J_cald (pc := 468) (f := X.2) dL_law_468 rfl h68 ?_
  refine J_aload_n (pc := 469) dL_law_469 rfl ?_
  refine J_iload_n (pc := 470) dL_law_470 rfl ?_
  refine J_iconst (pc := 471) dL_law_471 ci_3 ?_
  refine J_iadd (pc := 472) dL_law_472 ?_
  obtain ⟨h69, hh⟩ := gd_some hh
  refine J_cald (pc := 473) (f := X.2) dL_law_473 rfl h69 ?_
  obtain ⟨y70, hy70, hh⟩ := bd_some hh
  refine J_callVi (pc := 474) (M' := MX6_pupil) (a := 0) (rest := []) (As := [.int (X.2 (v3 + (1 : Int32)).toNatClampNeg), .int (X.2 (v3 + (2 : Int32)).toNatClampNeg), .int (X.2 (v3 + (3 : Int32)).toNatClampNeg)]) (L0 := [some (.ref 0), some (.int (X.2 (v3 + (1 : Int32)).toNatClampNeg)), some (.int (X.2 (v3 + (2 : Int32)).toNatClampNeg)), some (.int (X.2 (v3 + (3 : Int32)).toNatClampNeg))]) okX6_pupil ovX6_pupil mlL_42 clX6 so0 rfl rfl (Nat.le_of_ble_eq_true rfl) dL_law_474 rfl (Nat.le_of_ble_eq_true rfl) (jX6_pupil (X := X) (d + 11) s (X.2 (v3 + (1 : Int32)).toNatClampNeg) (X.2 (v3 + (2 : Int32)).toNatClampNeg) (X.2 (v3 + (3 : Int32)).toNatClampNeg) hy70) ?_
  refine J_aload_n (pc := 477) dL_law_477 rfl ?_
  refine J_aload_n (pc := 478) dL_law_478 rfl ?_
  refine J_iload_n (pc := 479) dL_law_479 rfl ?_
  refine J_iconst (pc := 480) dL_law_480 ci_1 ?_
  refine J_iadd (pc := 481) dL_law_481 ?_
  obtain ⟨h71, hh⟩ := gd_some hh
  refine J_cald (pc := 482) (f := X.2) dL_law_482 rfl h71 ?_
  refine J_aload_n (pc := 483) dL_law_483 rfl ?_
  refine J_iload_n (pc := 484) dL_law_484 rfl ?_
  refine J_iconst (pc := 485) dL_law_485 ci_2 ?_
  refine J_iadd (pc := 486) dL_law_486 ?_
  obtain ⟨h72, hh⟩ := gd_some hh
  refine J_cald (pc := 487) (f := X.2) dL_law_487 rfl h72 ?_
  refine J_aload_n (pc := 488) dL_law_488 rfl ?_
  refine J_iload_n (pc := 489) dL_law_489 rfl ?_
  refine J_iconst (pc := 490) dL_law_490 ci_3 ?_
  refine J_iadd (pc := 491) dL_law_491 ?_
  obtain ⟨h73, hh⟩ := gd_some hh
  refine J_cald (pc := 492) (f := X.2) dL_law_492 rfl h73 ?_
  obtain ⟨y74, hy74, hh⟩ := bd_some hh
  refine J_callVi (pc := 493) (M' := MX7_pupil) (a := 19) (rest := [.int y70.1]) (As := [.int (X.2 (v3 + (1 : Int32)).toNatClampNeg), .int (X.2 (v3 + (2 : Int32)).toNatClampNeg), .int (X.2 (v3 + (3 : Int32)).toNatClampNeg)]) (L0 := [some (.ref 19), some (.int (X.2 (v3 + (1 : Int32)).toNatClampNeg)), some (.int (X.2 (v3 + (2 : Int32)).toNatClampNeg)), some (.int (X.2 (v3 + (3 : Int32)).toNatClampNeg))]) okX7_pupil ovX7_pupil mlL_45 clX7 so19 rfl rfl (Nat.le_of_ble_eq_true rfl) dL_law_493 rfl (Nat.le_of_ble_eq_true rfl) (jX7_pupil (X := X) (d + 13) y70.2 (X.2 (v3 + (1 : Int32)).toNatClampNeg) (X.2 (v3 + (2 : Int32)).toNatClampNeg) (X.2 (v3 + (3 : Int32)).toNatClampNeg) hy74) ?_
  refine J_icmp_eq (pc := 496) 1552 dL_law_496 (by decide) (fun c76 => ?_) (fun c76 => ?_)
  · replace hh := (if_pos c76).symm.trans hh
    refine J_iincL (pc := 1552) (v := v3 + (7 : Int32)) (fun x75 => [some (.ref 2002), some (.ref 0), some (.ref 19), some (.int x75)]) dL_law_1552 rfl rfl (Nat.le_of_ble_eq_true rfl) (congrArg _ ci_7) (fun _ => rfl) hh (fun x75 hh => ?_)
    refine J_goto (pc := 1555) 18 dL_law_1555 (by decide) ?_
    obtain rfl := Option.some.inj hh
    exact hk
  · replace hh := (if_neg c76).symm.trans hh
    refine J_iconst (pc := 499) dL_law_499 ci_0 ?_
    obtain rfl := Option.some.inj hh
    obtain ⟨rfl, rfl⟩ := hk
    exact J_ret (w := some (.int (0 : Int32))) ⟨dL_law_500, _, rfl, rfl⟩
def gL_law_501 (X : Scr) (s : Mem) (v3 : Int32) : Option (((Int32 × Mem) ⊕ Mem) ⊕ (Int32 × Mem)) :=
  (fX6_leave s).bind (fun y78 => (fX7_leave y78.2).bind (fun y79 => if y78.1 = y79.1 then lt (v3 + (7 : Int32)) (fun x80 => some (Sum.inr (x80, y79.2))) else some (Sum.inl (Sum.inl (((0 : Int32), y79.2))))))
set_option maxRecDepth 4000 in
theorem jgL_law_501 (d : Nat) (X : Scr) (s : Mem) (v3 : Int32) {r : (((Int32 × Mem) ⊕ Mem) ⊕ (Int32 × Mem))} {w : Option Value} {s' : Mem} (hh : gL_law_501 X s v3 = some r) (hk : Sum.elim (Sum.elim (fun q : (Int32 × Mem) => w = some (.int q.1) ∧ q.2 = s') (fun t : Mem => J X ML_law (d + 16) 1558 [none, none, none, none] [] t w s')) (fun a : (Int32 × Mem) => J X ML_law (d + 16) 18 [some (.ref 2002), some (.ref 0), some (.ref 19), some (.int a.1)] [] a.2 w s') r) : J X ML_law (d + 16) 501 [some (.ref 2002), some (.ref 0), some (.ref 19), some (.int v3)] [] s w s' := by
  unfold gL_law_501 at hh
  refine J_aload_n (pc := 501) dL_law_501 rfl ?_
  obtain ⟨y78, hy78, hh⟩ := bd_some hh
  refine J_callVi (pc := 502) (M' := MX6_leave) (a := 0) (rest := []) (As := []) (L0 := [some (.ref 0)]) okX6_leave ovX6_leave mlL_46 clX6 so0 rfl rfl (Nat.le_of_ble_eq_true rfl) dL_law_502 rfl (Nat.le_of_ble_eq_true rfl) (jX6_leave (X := X) (d + 11) s hy78) ?_
  refine J_aload_n (pc := 505) dL_law_505 rfl ?_
  obtain ⟨y79, hy79, hh⟩ := bd_some hh
  refine J_callVi (pc := 506) (M' := MX7_leave) (a := 19) (rest := [.int y78.1]) (As := []) (L0 := [some (.ref 19)]) okX7_leave ovX7_leave mlL_50 clX7 so19 rfl rfl (Nat.le_of_ble_eq_true rfl) dL_law_506 rfl (Nat.le_of_ble_eq_true rfl) (jX7_leave (X := X) (d + 14) y78.2 hy79) ?_
  refine J_icmp_eq (pc := 509) 1552 dL_law_509 (by decide) (fun c81 => ?_) (fun c81 => ?_)
  · replace hh := (if_pos c81).symm.trans hh
    refine J_iincL (pc := 1552) (v := v3 + (7 : Int32)) (fun x80 => [some (.ref 2002), some (.ref 0), some (.ref 19), some (.int x80)]) dL_law_1552 rfl rfl (Nat.le_of_ble_eq_true rfl) (congrArg _ ci_7) (fun _ => rfl) hh (fun x80 hh => ?_)
    refine J_goto (pc := 1555) 18 dL_law_1555 (by decide) ?_
    obtain rfl := Option.some.inj hh
    exact hk
  · replace hh := (if_neg c81).symm.trans hh
    refine J_iconst (pc := 512) dL_law_512 ci_0 ?_
    obtain rfl := Option.some.inj hh
    obtain ⟨rfl, rfl⟩ := hk
    exact J_ret (w := some (.int (0 : Int32))) ⟨dL_law_513, _, rfl, rfl⟩
def gL_law_514 (X : Scr) (s : Mem) (v3 : Int32) : Option (((Int32 × Mem) ⊕ Mem) ⊕ (Int32 × Mem)) :=
  gd (v3 + (1 : Int32)) X.1 (gd (v3 + (2 : Int32)) X.1 ((fX6_its s (X.2 (v3 + (1 : Int32)).toNatClampNeg) (X.2 (v3 + (2 : Int32)).toNatClampNeg)).bind (fun y85 => gd (v3 + (1 : Int32)) X.1 (gd (v3 + (2 : Int32)) X.1 ((fX7_its y85.2 (X.2 (v3 + (1 : Int32)).toNatClampNeg) (X.2 (v3 + (2 : Int32)).toNatClampNeg)).bind (fun y88 => if y85.1 = y88.1 then lt (v3 + (7 : Int32)) (fun x89 => some (Sum.inr (x89, y88.2))) else some (Sum.inl (Sum.inl (((0 : Int32), y88.2))))))))))
set_option maxRecDepth 4000 in
theorem jgL_law_514 (d : Nat) (X : Scr) (s : Mem) (v3 : Int32) {r : (((Int32 × Mem) ⊕ Mem) ⊕ (Int32 × Mem))} {w : Option Value} {s' : Mem} (hh : gL_law_514 X s v3 = some r) (hk : Sum.elim (Sum.elim (fun q : (Int32 × Mem) => w = some (.int q.1) ∧ q.2 = s') (fun t : Mem => J X ML_law (d + 16) 1558 [none, none, none, none] [] t w s')) (fun a : (Int32 × Mem) => J X ML_law (d + 16) 18 [some (.ref 2002), some (.ref 0), some (.ref 19), some (.int a.1)] [] a.2 w s') r) : J X ML_law (d + 16) 514 [some (.ref 2002), some (.ref 0), some (.ref 19), some (.int v3)] [] s w s' := by
  unfold gL_law_514 at hh
  refine J_aload_n (pc := 514) dL_law_514 rfl ?_
  refine J_aload_n (pc := 515) dL_law_515 rfl ?_
  refine J_iload_n (pc := 516) dL_law_516 rfl ?_
  refine J_iconst (pc := 517) dL_law_517 ci_1 ?_
  refine J_iadd (pc := 518) dL_law_518 ?_
  obtain ⟨h83, hh⟩ := gd_some hh
  refine J_cald (pc := 519) (f := X.2) dL_law_519 rfl h83 ?_
  refine J_aload_n (pc := 520) dL_law_520 rfl ?_
  refine J_iload_n (pc := 521) dL_law_521 rfl ?_
  refine J_iconst (pc := 522) dL_law_522 ci_2 ?_
  refine J_iadd (pc := 523) dL_law_523 ?_
  obtain ⟨h84, hh⟩ := gd_some hh
  refine J_cald (pc := 524) (f := X.2) dL_law_524 rfl h84 ?_
  obtain ⟨y85, hy85, hh⟩ := bd_some hh
  refine J_callVi (pc := 525) (M' := MX6_its) (a := 0) (rest := []) (As := [.int (X.2 (v3 + (1 : Int32)).toNatClampNeg), .int (X.2 (v3 + (2 : Int32)).toNatClampNeg)]) (L0 := [some (.ref 0), some (.int (X.2 (v3 + (1 : Int32)).toNatClampNeg)), some (.int (X.2 (v3 + (2 : Int32)).toNatClampNeg))]) okX6_its ovX6_its mlL_51 clX6 so0 rfl rfl (Nat.le_of_ble_eq_true rfl) dL_law_525 rfl (Nat.le_of_ble_eq_true rfl) (jX6_its (X := X) (d + 12) s (X.2 (v3 + (1 : Int32)).toNatClampNeg) (X.2 (v3 + (2 : Int32)).toNatClampNeg) hy85) ?_
  refine J_aload_n (pc := 528) dL_law_528 rfl ?_
  refine J_aload_n (pc := 529) dL_law_529 rfl ?_
  refine J_iload_n (pc := 530) dL_law_530 rfl ?_
  refine J_iconst (pc := 531) dL_law_531 ci_1 ?_
  refine J_iadd (pc := 532) dL_law_532 ?_
  obtain ⟨h86, hh⟩ := gd_some hh
  refine J_cald (pc := 533) (f := X.2) dL_law_533 rfl h86 ?_
  refine J_aload_n (pc := 534) dL_law_534 rfl ?_
  refine J_iload_n (pc := 535) dL_law_535 rfl ?_
  refine J_iconst (pc := 536) dL_law_536 ci_2 ?_
  refine J_iadd (pc := 537) dL_law_537 ?_
  obtain ⟨h87, hh⟩ := gd_some hh
  refine J_cald (pc := 538) (f := X.2) dL_law_538 rfl h87 ?_
  obtain ⟨y88, hy88, hh⟩ := bd_some hh
  refine J_callVi (pc := 539) (M' := MX7_its) (a := 19) (rest := [.int y85.1]) (As := [.int (X.2 (v3 + (1 : Int32)).toNatClampNeg), .int (X.2 (v3 + (2 : Int32)).toNatClampNeg)]) (L0 := [some (.ref 19), some (.int (X.2 (v3 + (1 : Int32)).toNatClampNeg)), some (.int (X.2 (v3 + (2 : Int32)).toNatClampNeg))]) okX7_its ovX7_its mlL_54 clX7 so19 rfl rfl (Nat.le_of_ble_eq_true rfl) dL_law_539 rfl (Nat.le_of_ble_eq_true rfl) (jX7_its (X := X) (d + 8) y85.2 (X.2 (v3 + (1 : Int32)).toNatClampNeg) (X.2 (v3 + (2 : Int32)).toNatClampNeg) hy88) ?_
  refine J_icmp_eq (pc := 542) 1552 dL_law_542 (by decide) (fun c90 => ?_) (fun c90 => ?_)
  · replace hh := (if_pos c90).symm.trans hh
    refine J_iincL (pc := 1552) (v := v3 + (7 : Int32)) (fun x89 => [some (.ref 2002), some (.ref 0), some (.ref 19), some (.int x89)]) dL_law_1552 rfl rfl (Nat.le_of_ble_eq_true rfl) (congrArg _ ci_7) (fun _ => rfl) hh (fun x89 hh => ?_)
    refine J_goto (pc := 1555) 18 dL_law_1555 (by decide) ?_
    obtain rfl := Option.some.inj hh
    exact hk
  · replace hh := (if_neg c90).symm.trans hh
    refine J_iconst (pc := 545) dL_law_545 ci_0 ?_
    obtain rfl := Option.some.inj hh
    obtain ⟨rfl, rfl⟩ := hk
    exact J_ret (w := some (.int (0 : Int32))) ⟨dL_law_546, _, rfl, rfl⟩
def gL_law_547 (X : Scr) (s : Mem) (v3 : Int32) : Option (((Int32 × Mem) ⊕ Mem) ⊕ (Int32 × Mem)) :=
  gd (v3 + (1 : Int32)) X.1 (gd (v3 + (2 : Int32)) X.1 (gd (v3 + (3 : Int32)) X.1 ((fX6_change s (X.2 (v3 + (1 : Int32)).toNatClampNeg) (X.2 (v3 + (2 : Int32)).toNatClampNeg) (X.2 (v3 + (3 : Int32)).toNatClampNeg)).bind (fun y95 => gd (v3 + (1 : Int32)) X.1 (gd (v3 + (2 : Int32)) X.1 (gd (v3 + (3 : Int32)) X.1 ((fX7_change y95.2 (X.2 (v3 + (1 : Int32)).toNatClampNeg) (X.2 (v3 + (2 : Int32)).toNatClampNeg) (X.2 (v3 + (3 : Int32)).toNatClampNeg)).bind (fun y99 => if y95.1 = y99.1 then lt (v3 + (7 : Int32)) (fun x100 => some (Sum.inr (x100, y99.2))) else some (Sum.inl (Sum.inl (((0 : Int32), y99.2))))))))))))
set_option maxRecDepth 4000 in
theorem jgL_law_547 (d : Nat) (X : Scr) (s : Mem) (v3 : Int32) {r : (((Int32 × Mem) ⊕ Mem) ⊕ (Int32 × Mem))} {w : Option Value} {s' : Mem} (hh : gL_law_547 X s v3 = some r) (hk : Sum.elim (Sum.elim (fun q : (Int32 × Mem) => w = some (.int q.1) ∧ q.2 = s') (fun t : Mem => J X ML_law (d + 16) 1558 [none, none, none, none] [] t w s')) (fun a : (Int32 × Mem) => J X ML_law (d + 16) 18 [some (.ref 2002), some (.ref 0), some (.ref 19), some (.int a.1)] [] a.2 w s') r) : J X ML_law (d + 16) 547 [some (.ref 2002), some (.ref 0), some (.ref 19), some (.int v3)] [] s w s' := by
  unfold gL_law_547 at hh
  refine J_aload_n (pc := 547) dL_law_547 rfl ?_
  refine J_aload_n (pc := 548) dL_law_548 rfl ?_
  refine J_iload_n (pc := 549) dL_law_549 rfl ?_
  refine J_iconst (pc := 550) dL_law_550 ci_1 ?_
  refine J_iadd (pc := 551) dL_law_551 ?_
  obtain ⟨h92, hh⟩ := gd_some hh
  refine J_cald (pc := 552) (f := X.2) dL_law_552 rfl h92 ?_
  refine J_aload_n (pc := 553) dL_law_553 rfl ?_
  refine J_iload_n (pc := 554) dL_law_554 rfl ?_
  refine J_iconst (pc := 555) dL_law_555 ci_2 ?_
  refine J_iadd (pc := 556) dL_law_556 ?_
  obtain ⟨h93, hh⟩ := gd_some hh
  refine J_cald (pc := 557) (f := X.2) dL_law_557 rfl h93 ?_
  refine J_aload_n (pc := 558) dL_law_558 rfl ?_
  refine J_iload_n (pc := 559) dL_law_559 rfl ?_
  refine J_iconst (pc := 560) dL_law_560 ci_3 ?_
  refine J_iadd (pc := 561) dL_law_561 ?_
  obtain ⟨h94, hh⟩ := gd_some hh
  refine J_cald (pc := 562) (f := X.2) dL_law_562 rfl h94 ?_
  obtain ⟨y95, hy95, hh⟩ := bd_some hh
  refine J_callVi (pc := 563) (M' := MX6_change) (a := 0) (rest := []) (As := [.int (X.2 (v3 + (1 : Int32)).toNatClampNeg), .int (X.2 (v3 + (2 : Int32)).toNatClampNeg), .int (X.2 (v3 + (3 : Int32)).toNatClampNeg)]) (L0 := [some (.ref 0), some (.int (X.2 (v3 + (1 : Int32)).toNatClampNeg)), some (.int (X.2 (v3 + (2 : Int32)).toNatClampNeg)), some (.int (X.2 (v3 + (3 : Int32)).toNatClampNeg))]) okX6_change ovX6_change mlL_55 clX6 so0 rfl rfl (Nat.le_of_ble_eq_true rfl) dL_law_563 rfl (Nat.le_of_ble_eq_true rfl) (jX6_change (X := X) (d + 11) s (X.2 (v3 + (1 : Int32)).toNatClampNeg) (X.2 (v3 + (2 : Int32)).toNatClampNeg) (X.2 (v3 + (3 : Int32)).toNatClampNeg) hy95) ?_
  refine J_aload_n (pc := 566) dL_law_566 rfl ?_
  refine J_aload_n (pc := 567) dL_law_567 rfl ?_
  refine J_iload_n (pc := 568) dL_law_568 rfl ?_
  refine J_iconst (pc := 569) dL_law_569 ci_1 ?_
  refine J_iadd (pc := 570) dL_law_570 ?_
  obtain ⟨h96, hh⟩ := gd_some hh
  refine J_cald (pc := 571) (f := X.2) dL_law_571 rfl h96 ?_
  refine J_aload_n (pc := 572) dL_law_572 rfl ?_
  refine J_iload_n (pc := 573) dL_law_573 rfl ?_
  refine J_iconst (pc := 574) dL_law_574 ci_2 ?_
  refine J_iadd (pc := 575) dL_law_575 ?_
  obtain ⟨h97, hh⟩ := gd_some hh
  refine J_cald (pc := 576) (f := X.2) dL_law_576 rfl h97 ?_
  refine J_aload_n (pc := 577) dL_law_577 rfl ?_
  refine J_iload_n (pc := 578) dL_law_578 rfl ?_
  refine J_iconst (pc := 579) dL_law_579 ci_3 ?_
  refine J_iadd (pc := 580) dL_law_580 ?_
  obtain ⟨h98, hh⟩ := gd_some hh
  refine J_cald (pc := 581) (f := X.2) dL_law_581 rfl h98 ?_
  obtain ⟨y99, hy99, hh⟩ := bd_some hh
  refine J_callVi (pc := 582) (M' := MX7_change) (a := 19) (rest := [.int y95.1]) (As := [.int (X.2 (v3 + (1 : Int32)).toNatClampNeg), .int (X.2 (v3 + (2 : Int32)).toNatClampNeg), .int (X.2 (v3 + (3 : Int32)).toNatClampNeg)]) (L0 := [some (.ref 19), some (.int (X.2 (v3 + (1 : Int32)).toNatClampNeg)), some (.int (X.2 (v3 + (2 : Int32)).toNatClampNeg)), some (.int (X.2 (v3 + (3 : Int32)).toNatClampNeg)), none, none]) okX7_change ovX7_change mlL_58 clX7 so19 rfl rfl (Nat.le_of_ble_eq_true rfl) dL_law_582 rfl (Nat.le_of_ble_eq_true rfl) (jX7_change (X := X) (d + 9) y95.2 (X.2 (v3 + (1 : Int32)).toNatClampNeg) (X.2 (v3 + (2 : Int32)).toNatClampNeg) (X.2 (v3 + (3 : Int32)).toNatClampNeg) hy99) ?_
  refine J_icmp_eq (pc := 585) 1552 dL_law_585 (by decide) (fun c101 => ?_) (fun c101 => ?_)
  · replace hh := (if_pos c101).symm.trans hh
    refine J_iincL (pc := 1552) (v := v3 + (7 : Int32)) (fun x100 => [some (.ref 2002), some (.ref 0), some (.ref 19), some (.int x100)]) dL_law_1552 rfl rfl (Nat.le_of_ble_eq_true rfl) (congrArg _ ci_7) (fun _ => rfl) hh (fun x100 hh => ?_)
    refine J_goto (pc := 1555) 18 dL_law_1555 (by decide) ?_
    obtain rfl := Option.some.inj hh
    exact hk
  · replace hh := (if_neg c101).symm.trans hh
    refine J_iconst (pc := 588) dL_law_588 ci_0 ?_
    obtain rfl := Option.some.inj hh
    obtain ⟨rfl, rfl⟩ := hk
    exact J_ret (w := some (.int (0 : Int32))) ⟨dL_law_589, _, rfl, rfl⟩
def gL_law_590 (X : Scr) (s : Mem) (v3 : Int32) : Option (((Int32 × Mem) ⊕ Mem) ⊕ (Int32 × Mem)) :=
  gd (v3 + (1 : Int32)) X.1 (gd (v3 + (2 : Int32)) X.1 ((fX6_as s (X.2 (v3 + (1 : Int32)).toNatClampNeg) (X.2 (v3 + (2 : Int32)).toNatClampNeg)).bind (fun y105 => gd (v3 + (1 : Int32)) X.1 (gd (v3 + (2 : Int32)) X.1 ((fX7_as y105.2 (X.2 (v3 + (1 : Int32)).toNatClampNeg) (X.2 (v3 + (2 : Int32)).toNatClampNeg)).bind (fun y108 => if y105.1 = y108.1 then lt (v3 + (7 : Int32)) (fun x109 => some (Sum.inr (x109, y108.2))) else some (Sum.inl (Sum.inl (((0 : Int32), y108.2))))))))))
set_option maxRecDepth 4000 in
theorem jgL_law_590 (d : Nat) (X : Scr) (s : Mem) (v3 : Int32) {r : (((Int32 × Mem) ⊕ Mem) ⊕ (Int32 × Mem))} {w : Option Value} {s' : Mem} (hh : gL_law_590 X s v3 = some r) (hk : Sum.elim (Sum.elim (fun q : (Int32 × Mem) => w = some (.int q.1) ∧ q.2 = s') (fun t : Mem => J X ML_law (d + 16) 1558 [none, none, none, none] [] t w s')) (fun a : (Int32 × Mem) => J X ML_law (d + 16) 18 [some (.ref 2002), some (.ref 0), some (.ref 19), some (.int a.1)] [] a.2 w s') r) : J X ML_law (d + 16) 590 [some (.ref 2002), some (.ref 0), some (.ref 19), some (.int v3)] [] s w s' := by
  unfold gL_law_590 at hh
  refine J_aload_n (pc := 590) dL_law_590 rfl ?_
  refine J_aload_n (pc := 591) dL_law_591 rfl ?_
  refine J_iload_n (pc := 592) dL_law_592 rfl ?_
  refine J_iconst (pc := 593) dL_law_593 ci_1 ?_
  refine J_iadd (pc := 594) dL_law_594 ?_
  obtain ⟨h103, hh⟩ := gd_some hh
  refine J_cald (pc := 595) (f := X.2) dL_law_595 rfl h103 ?_
  refine J_aload_n (pc := 596) dL_law_596 rfl ?_
  refine J_iload_n (pc := 597) dL_law_597 rfl ?_
  refine J_iconst (pc := 598) dL_law_598 ci_2 ?_
  refine J_iadd (pc := 599) dL_law_599 ?_
  obtain ⟨h104, hh⟩ := gd_some hh
  refine J_cald (pc := 600) (f := X.2) dL_law_600 rfl h104 ?_
  obtain ⟨y105, hy105, hh⟩ := bd_some hh
  refine J_callVi (pc := 601) (M' := MX6_as) (a := 0) (rest := []) (As := [.int (X.2 (v3 + (1 : Int32)).toNatClampNeg), .int (X.2 (v3 + (2 : Int32)).toNatClampNeg)]) (L0 := [some (.ref 0), some (.int (X.2 (v3 + (1 : Int32)).toNatClampNeg)), some (.int (X.2 (v3 + (2 : Int32)).toNatClampNeg))]) okX6_as ovX6_as mlL_59 clX6 so0 rfl rfl (Nat.le_of_ble_eq_true rfl) dL_law_601 rfl (Nat.le_of_ble_eq_true rfl) (jX6_as (X := X) (d + 13) s (X.2 (v3 + (1 : Int32)).toNatClampNeg) (X.2 (v3 + (2 : Int32)).toNatClampNeg) hy105) ?_
  refine J_aload_n (pc := 604) dL_law_604 rfl ?_
  refine J_aload_n (pc := 605) dL_law_605 rfl ?_
  refine J_iload_n (pc := 606) dL_law_606 rfl ?_
  refine J_iconst (pc := 607) dL_law_607 ci_1 ?_
  refine J_iadd (pc := 608) dL_law_608 ?_
  obtain ⟨h106, hh⟩ := gd_some hh
  refine J_cald (pc := 609) (f := X.2) dL_law_609 rfl h106 ?_
  refine J_aload_n (pc := 610) dL_law_610 rfl ?_
  refine J_iload_n (pc := 611) dL_law_611 rfl ?_
  refine J_iconst (pc := 612) dL_law_612 ci_2 ?_
  refine J_iadd (pc := 613) dL_law_613 ?_
  obtain ⟨h107, hh⟩ := gd_some hh
  refine J_cald (pc := 614) (f := X.2) dL_law_614 rfl h107 ?_
  obtain ⟨y108, hy108, hh⟩ := bd_some hh
  refine J_callVi (pc := 615) (M' := MX7_as) (a := 19) (rest := [.int y105.1]) (As := [.int (X.2 (v3 + (1 : Int32)).toNatClampNeg), .int (X.2 (v3 + (2 : Int32)).toNatClampNeg)]) (L0 := [some (.ref 19), some (.int (X.2 (v3 + (1 : Int32)).toNatClampNeg)), some (.int (X.2 (v3 + (2 : Int32)).toNatClampNeg)), none]) okX7_as ovX7_as mlL_62 clX7 so19 rfl rfl (Nat.le_of_ble_eq_true rfl) dL_law_615 rfl (Nat.le_of_ble_eq_true rfl) (jX7_as (X := X) (d + 9) y105.2 (X.2 (v3 + (1 : Int32)).toNatClampNeg) (X.2 (v3 + (2 : Int32)).toNatClampNeg) hy108) ?_
  refine J_icmp_eq (pc := 618) 1552 dL_law_618 (by decide) (fun c110 => ?_) (fun c110 => ?_)
  · replace hh := (if_pos c110).symm.trans hh
    refine J_iincL (pc := 1552) (v := v3 + (7 : Int32)) (fun x109 => [some (.ref 2002), some (.ref 0), some (.ref 19), some (.int x109)]) dL_law_1552 rfl rfl (Nat.le_of_ble_eq_true rfl) (congrArg _ ci_7) (fun _ => rfl) hh (fun x109 hh => ?_)
    refine J_goto (pc := 1555) 18 dL_law_1555 (by decide) ?_
    obtain rfl := Option.some.inj hh
    exact hk
  · replace hh := (if_neg c110).symm.trans hh
    refine J_iconst (pc := 621) dL_law_621 ci_0 ?_
    obtain rfl := Option.some.inj hh
    obtain ⟨rfl, rfl⟩ := hk
    exact J_ret (w := some (.int (0 : Int32))) ⟨dL_law_622, _, rfl, rfl⟩
def gL_law_623 (X : Scr) (s : Mem) (v3 : Int32) : Option (((Int32 × Mem) ⊕ Mem) ⊕ (Int32 × Mem)) :=
  gd (v3 + (1 : Int32)) X.1 (gd (v3 + (2 : Int32)) X.1 ((fX6_fits s (X.2 (v3 + (1 : Int32)).toNatClampNeg) (X.2 (v3 + (2 : Int32)).toNatClampNeg)).bind (fun y114 => gd (v3 + (1 : Int32)) X.1 (gd (v3 + (2 : Int32)) X.1 ((fX7_fits y114.2 (X.2 (v3 + (1 : Int32)).toNatClampNeg) (X.2 (v3 + (2 : Int32)).toNatClampNeg)).bind (fun y117 => if y114.1 = y117.1 then lt (v3 + (7 : Int32)) (fun x118 => some (Sum.inr (x118, y117.2))) else some (Sum.inl (Sum.inl (((0 : Int32), y117.2))))))))))
set_option maxRecDepth 4000 in
theorem jgL_law_623 (d : Nat) (X : Scr) (s : Mem) (v3 : Int32) {r : (((Int32 × Mem) ⊕ Mem) ⊕ (Int32 × Mem))} {w : Option Value} {s' : Mem} (hh : gL_law_623 X s v3 = some r) (hk : Sum.elim (Sum.elim (fun q : (Int32 × Mem) => w = some (.int q.1) ∧ q.2 = s') (fun t : Mem => J X ML_law (d + 16) 1558 [none, none, none, none] [] t w s')) (fun a : (Int32 × Mem) => J X ML_law (d + 16) 18 [some (.ref 2002), some (.ref 0), some (.ref 19), some (.int a.1)] [] a.2 w s') r) : J X ML_law (d + 16) 623 [some (.ref 2002), some (.ref 0), some (.ref 19), some (.int v3)] [] s w s' := by
  unfold gL_law_623 at hh
  refine J_aload_n (pc := 623) dL_law_623 rfl ?_
  refine J_aload_n (pc := 624) dL_law_624 rfl ?_
  refine J_iload_n (pc := 625) dL_law_625 rfl ?_
  refine J_iconst (pc := 626) dL_law_626 ci_1 ?_
  refine J_iadd (pc := 627) dL_law_627 ?_
  obtain ⟨h112, hh⟩ := gd_some hh
  refine J_cald (pc := 628) (f := X.2) dL_law_628 rfl h112 ?_
  refine J_aload_n (pc := 629) dL_law_629 rfl ?_
  refine J_iload_n (pc := 630) dL_law_630 rfl ?_
  refine J_iconst (pc := 631) dL_law_631 ci_2 ?_
  refine J_iadd (pc := 632) dL_law_632 ?_
  obtain ⟨h113, hh⟩ := gd_some hh
  refine J_cald (pc := 633) (f := X.2) dL_law_633 rfl h113 ?_
  obtain ⟨y114, hy114, hh⟩ := bd_some hh
  refine J_callVi (pc := 634) (M' := MX6_fits) (a := 0) (rest := []) (As := [.int (X.2 (v3 + (1 : Int32)).toNatClampNeg), .int (X.2 (v3 + (2 : Int32)).toNatClampNeg)]) (L0 := [some (.ref 0), some (.int (X.2 (v3 + (1 : Int32)).toNatClampNeg)), some (.int (X.2 (v3 + (2 : Int32)).toNatClampNeg))]) okX6_fits ovX6_fits mlL_63 clX6 so0 rfl rfl (Nat.le_of_ble_eq_true rfl) dL_law_634 rfl (Nat.le_of_ble_eq_true rfl) (jX6_fits (X := X) (d + 12) s (X.2 (v3 + (1 : Int32)).toNatClampNeg) (X.2 (v3 + (2 : Int32)).toNatClampNeg) hy114) ?_
  refine J_aload_n (pc := 637) dL_law_637 rfl ?_
  refine J_aload_n (pc := 638) dL_law_638 rfl ?_
  refine J_iload_n (pc := 639) dL_law_639 rfl ?_
  refine J_iconst (pc := 640) dL_law_640 ci_1 ?_
  refine J_iadd (pc := 641) dL_law_641 ?_
  obtain ⟨h115, hh⟩ := gd_some hh
  refine J_cald (pc := 642) (f := X.2) dL_law_642 rfl h115 ?_
  refine J_aload_n (pc := 643) dL_law_643 rfl ?_
  refine J_iload_n (pc := 644) dL_law_644 rfl ?_
  refine J_iconst (pc := 645) dL_law_645 ci_2 ?_
  refine J_iadd (pc := 646) dL_law_646 ?_
  obtain ⟨h116, hh⟩ := gd_some hh
  refine J_cald (pc := 647) (f := X.2) dL_law_647 rfl h116 ?_
  obtain ⟨y117, hy117, hh⟩ := bd_some hh
  refine J_callVi (pc := 648) (M' := MX7_fits) (a := 19) (rest := [.int y114.1]) (As := [.int (X.2 (v3 + (1 : Int32)).toNatClampNeg), .int (X.2 (v3 + (2 : Int32)).toNatClampNeg)]) (L0 := [some (.ref 19), some (.int (X.2 (v3 + (1 : Int32)).toNatClampNeg)), some (.int (X.2 (v3 + (2 : Int32)).toNatClampNeg)), none]) okX7_fits ovX7_fits mlL_66 clX7 so19 rfl rfl (Nat.le_of_ble_eq_true rfl) dL_law_648 rfl (Nat.le_of_ble_eq_true rfl) (jX7_fits (X := X) (d + 6) y114.2 (X.2 (v3 + (1 : Int32)).toNatClampNeg) (X.2 (v3 + (2 : Int32)).toNatClampNeg) hy117) ?_
  refine J_icmp_eq (pc := 651) 1552 dL_law_651 (by decide) (fun c119 => ?_) (fun c119 => ?_)
  · replace hh := (if_pos c119).symm.trans hh
    refine J_iincL (pc := 1552) (v := v3 + (7 : Int32)) (fun x118 => [some (.ref 2002), some (.ref 0), some (.ref 19), some (.int x118)]) dL_law_1552 rfl rfl (Nat.le_of_ble_eq_true rfl) (congrArg _ ci_7) (fun _ => rfl) hh (fun x118 hh => ?_)
    refine J_goto (pc := 1555) 18 dL_law_1555 (by decide) ?_
    obtain rfl := Option.some.inj hh
    exact hk
  · replace hh := (if_neg c119).symm.trans hh
    refine J_iconst (pc := 654) dL_law_654 ci_0 ?_
    obtain rfl := Option.some.inj hh
    obtain ⟨rfl, rfl⟩ := hk
    exact J_ret (w := some (.int (0 : Int32))) ⟨dL_law_655, _, rfl, rfl⟩
def gL_law_656 (X : Scr) (s : Mem) (v3 : Int32) : Option (((Int32 × Mem) ⊕ Mem) ⊕ (Int32 × Mem)) :=
  gd (v3 + (1 : Int32)) X.1 (gd (v3 + (2 : Int32)) X.1 (gd (v3 + (3 : Int32)) X.1 ((fX6_why s (X.2 (v3 + (1 : Int32)).toNatClampNeg) (X.2 (v3 + (2 : Int32)).toNatClampNeg) (X.2 (v3 + (3 : Int32)).toNatClampNeg)).bind (fun y124 => gd (v3 + (1 : Int32)) X.1 (gd (v3 + (2 : Int32)) X.1 (gd (v3 + (3 : Int32)) X.1 ((fX7_why y124.2 (X.2 (v3 + (1 : Int32)).toNatClampNeg) (X.2 (v3 + (2 : Int32)).toNatClampNeg) (X.2 (v3 + (3 : Int32)).toNatClampNeg)).bind (fun y128 => if y124.1 = y128.1 then lt (v3 + (7 : Int32)) (fun x129 => some (Sum.inr (x129, y128.2))) else some (Sum.inl (Sum.inl (((0 : Int32), y128.2))))))))))))
set_option maxRecDepth 4000 in
theorem jgL_law_656 (d : Nat) (X : Scr) (s : Mem) (v3 : Int32) {r : (((Int32 × Mem) ⊕ Mem) ⊕ (Int32 × Mem))} {w : Option Value} {s' : Mem} (hh : gL_law_656 X s v3 = some r) (hk : Sum.elim (Sum.elim (fun q : (Int32 × Mem) => w = some (.int q.1) ∧ q.2 = s') (fun t : Mem => J X ML_law (d + 16) 1558 [none, none, none, none] [] t w s')) (fun a : (Int32 × Mem) => J X ML_law (d + 16) 18 [some (.ref 2002), some (.ref 0), some (.ref 19), some (.int a.1)] [] a.2 w s') r) : J X ML_law (d + 16) 656 [some (.ref 2002), some (.ref 0), some (.ref 19), some (.int v3)] [] s w s' := by
  unfold gL_law_656 at hh
  refine J_aload_n (pc := 656) dL_law_656 rfl ?_
  refine J_aload_n (pc := 657) dL_law_657 rfl ?_
  refine J_iload_n (pc := 658) dL_law_658 rfl ?_
  refine J_iconst (pc := 659) dL_law_659 ci_1 ?_
  refine J_iadd (pc := 660) dL_law_660 ?_
  obtain ⟨h121, hh⟩ := gd_some hh
  refine J_cald (pc := 661) (f := X.2) dL_law_661 rfl h121 ?_
  refine J_aload_n (pc := 662) dL_law_662 rfl ?_
  refine J_iload_n (pc := 663) dL_law_663 rfl ?_
  refine J_iconst (pc := 664) dL_law_664 ci_2 ?_
  refine J_iadd (pc := 665) dL_law_665 ?_
  obtain ⟨h122, hh⟩ := gd_some hh
  refine J_cald (pc := 666) (f := X.2) dL_law_666 rfl h122 ?_
  refine J_aload_n (pc := 667) dL_law_667 rfl ?_
  refine J_iload_n (pc := 668) dL_law_668 rfl ?_
  refine J_iconst (pc := 669) dL_law_669 ci_3 ?_
  refine J_iadd (pc := 670) dL_law_670 ?_
  obtain ⟨h123, hh⟩ := gd_some hh
  refine J_cald (pc := 671) (f := X.2) dL_law_671 rfl h123 ?_
  obtain ⟨y124, hy124, hh⟩ := bd_some hh
  refine J_callVi (pc := 672) (M' := MX6_why) (a := 0) (rest := []) (As := [.int (X.2 (v3 + (1 : Int32)).toNatClampNeg), .int (X.2 (v3 + (2 : Int32)).toNatClampNeg), .int (X.2 (v3 + (3 : Int32)).toNatClampNeg)]) (L0 := [some (.ref 0), some (.int (X.2 (v3 + (1 : Int32)).toNatClampNeg)), some (.int (X.2 (v3 + (2 : Int32)).toNatClampNeg)), some (.int (X.2 (v3 + (3 : Int32)).toNatClampNeg)), none]) okX6_why ovX6_why mlL_67 clX6 so0 rfl rfl (Nat.le_of_ble_eq_true rfl) dL_law_672 rfl (Nat.le_of_ble_eq_true rfl) (jX6_why (X := X) (d + 12) s (X.2 (v3 + (1 : Int32)).toNatClampNeg) (X.2 (v3 + (2 : Int32)).toNatClampNeg) (X.2 (v3 + (3 : Int32)).toNatClampNeg) hy124) ?_
  refine J_aload_n (pc := 675) dL_law_675 rfl ?_
  refine J_aload_n (pc := 676) dL_law_676 rfl ?_
  refine J_iload_n (pc := 677) dL_law_677 rfl ?_
  refine J_iconst (pc := 678) dL_law_678 ci_1 ?_
  refine J_iadd (pc := 679) dL_law_679 ?_
  obtain ⟨h125, hh⟩ := gd_some hh
  refine J_cald (pc := 680) (f := X.2) dL_law_680 rfl h125 ?_
  refine J_aload_n (pc := 681) dL_law_681 rfl ?_
  refine J_iload_n (pc := 682) dL_law_682 rfl ?_
  refine J_iconst (pc := 683) dL_law_683 ci_2 ?_
  refine J_iadd (pc := 684) dL_law_684 ?_
  obtain ⟨h126, hh⟩ := gd_some hh
  refine J_cald (pc := 685) (f := X.2) dL_law_685 rfl h126 ?_
  refine J_aload_n (pc := 686) dL_law_686 rfl ?_
  refine J_iload_n (pc := 687) dL_law_687 rfl ?_
  refine J_iconst (pc := 688) dL_law_688 ci_3 ?_
  refine J_iadd (pc := 689) dL_law_689 ?_
  obtain ⟨h127, hh⟩ := gd_some hh
  refine J_cald (pc := 690) (f := X.2) dL_law_690 rfl h127 ?_
  obtain ⟨y128, hy128, hh⟩ := bd_some hh
  refine J_callVi (pc := 691) (M' := MX7_why) (a := 19) (rest := [.int y124.1]) (As := [.int (X.2 (v3 + (1 : Int32)).toNatClampNeg), .int (X.2 (v3 + (2 : Int32)).toNatClampNeg), .int (X.2 (v3 + (3 : Int32)).toNatClampNeg)]) (L0 := [some (.ref 19), some (.int (X.2 (v3 + (1 : Int32)).toNatClampNeg)), some (.int (X.2 (v3 + (2 : Int32)).toNatClampNeg)), some (.int (X.2 (v3 + (3 : Int32)).toNatClampNeg)), none, none, none, none, none]) okX7_why ovX7_why mlL_70 clX7 so19 rfl rfl (Nat.le_of_ble_eq_true rfl) dL_law_691 rfl (Nat.le_of_ble_eq_true rfl) (jX7_why (X := X) (d + 8) y124.2 (X.2 (v3 + (1 : Int32)).toNatClampNeg) (X.2 (v3 + (2 : Int32)).toNatClampNeg) (X.2 (v3 + (3 : Int32)).toNatClampNeg) hy128) ?_
  refine J_icmp_eq (pc := 694) 1552 dL_law_694 (by decide) (fun c130 => ?_) (fun c130 => ?_)
  · replace hh := (if_pos c130).symm.trans hh
    refine J_iincL (pc := 1552) (v := v3 + (7 : Int32)) (fun x129 => [some (.ref 2002), some (.ref 0), some (.ref 19), some (.int x129)]) dL_law_1552 rfl rfl (Nat.le_of_ble_eq_true rfl) (congrArg _ ci_7) (fun _ => rfl) hh (fun x129 hh => ?_)
    refine J_goto (pc := 1555) 18 dL_law_1555 (by decide) ?_
    obtain rfl := Option.some.inj hh
    exact hk
  · replace hh := (if_neg c130).symm.trans hh
    refine J_iconst (pc := 697) dL_law_697 ci_0 ?_
    obtain rfl := Option.some.inj hh
    obtain ⟨rfl, rfl⟩ := hk
    exact J_ret (w := some (.int (0 : Int32))) ⟨dL_law_698, _, rfl, rfl⟩
def gL_law_699 (X : Scr) (s : Mem) (v3 : Int32) : Option (((Int32 × Mem) ⊕ Mem) ⊕ (Int32 × Mem)) :=
  gd (v3 + (1 : Int32)) X.1 (gd (v3 + (2 : Int32)) X.1 ((fX6_both s (X.2 (v3 + (1 : Int32)).toNatClampNeg) (X.2 (v3 + (2 : Int32)).toNatClampNeg)).bind (fun y134 => gd (v3 + (1 : Int32)) X.1 (gd (v3 + (2 : Int32)) X.1 ((fX7_both y134.2 (X.2 (v3 + (1 : Int32)).toNatClampNeg) (X.2 (v3 + (2 : Int32)).toNatClampNeg)).bind (fun y137 => if y134.1 = y137.1 then lt (v3 + (7 : Int32)) (fun x138 => some (Sum.inr (x138, y137.2))) else some (Sum.inl (Sum.inl (((0 : Int32), y137.2))))))))))
set_option maxRecDepth 4000 in
theorem jgL_law_699 (d : Nat) (X : Scr) (s : Mem) (v3 : Int32) {r : (((Int32 × Mem) ⊕ Mem) ⊕ (Int32 × Mem))} {w : Option Value} {s' : Mem} (hh : gL_law_699 X s v3 = some r) (hk : Sum.elim (Sum.elim (fun q : (Int32 × Mem) => w = some (.int q.1) ∧ q.2 = s') (fun t : Mem => J X ML_law (d + 16) 1558 [none, none, none, none] [] t w s')) (fun a : (Int32 × Mem) => J X ML_law (d + 16) 18 [some (.ref 2002), some (.ref 0), some (.ref 19), some (.int a.1)] [] a.2 w s') r) : J X ML_law (d + 16) 699 [some (.ref 2002), some (.ref 0), some (.ref 19), some (.int v3)] [] s w s' := by
  unfold gL_law_699 at hh
  refine J_aload_n (pc := 699) dL_law_699 rfl ?_
  refine J_aload_n (pc := 700) dL_law_700 rfl ?_
  refine J_iload_n (pc := 701) dL_law_701 rfl ?_
  refine J_iconst (pc := 702) dL_law_702 ci_1 ?_
  refine J_iadd (pc := 703) dL_law_703 ?_
  obtain ⟨h132, hh⟩ := gd_some hh
  refine J_cald (pc := 704) (f := X.2) dL_law_704 rfl h132 ?_
  refine J_aload_n (pc := 705) dL_law_705 rfl ?_
  refine J_iload_n (pc := 706) dL_law_706 rfl ?_
  refine J_iconst (pc := 707) dL_law_707 ci_2 ?_
  refine J_iadd (pc := 708) dL_law_708 ?_
  obtain ⟨h133, hh⟩ := gd_some hh
  refine J_cald (pc := 709) (f := X.2) dL_law_709 rfl h133 ?_
  obtain ⟨y134, hy134, hh⟩ := bd_some hh
  refine J_callVi (pc := 710) (M' := MX6_both) (a := 0) (rest := []) (As := [.int (X.2 (v3 + (1 : Int32)).toNatClampNeg), .int (X.2 (v3 + (2 : Int32)).toNatClampNeg)]) (L0 := [some (.ref 0), some (.int (X.2 (v3 + (1 : Int32)).toNatClampNeg)), some (.int (X.2 (v3 + (2 : Int32)).toNatClampNeg))]) okX6_both ovX6_both mlL_71 clX6 so0 rfl rfl (Nat.le_of_ble_eq_true rfl) dL_law_710 rfl (Nat.le_of_ble_eq_true rfl) (jX6_both (X := X) (d + 13) s (X.2 (v3 + (1 : Int32)).toNatClampNeg) (X.2 (v3 + (2 : Int32)).toNatClampNeg) hy134) ?_
  refine J_aload_n (pc := 713) dL_law_713 rfl ?_
  refine J_aload_n (pc := 714) dL_law_714 rfl ?_
  refine J_iload_n (pc := 715) dL_law_715 rfl ?_
  refine J_iconst (pc := 716) dL_law_716 ci_1 ?_
  refine J_iadd (pc := 717) dL_law_717 ?_
  obtain ⟨h135, hh⟩ := gd_some hh
  refine J_cald (pc := 718) (f := X.2) dL_law_718 rfl h135 ?_
  refine J_aload_n (pc := 719) dL_law_719 rfl ?_
  refine J_iload_n (pc := 720) dL_law_720 rfl ?_
  refine J_iconst (pc := 721) dL_law_721 ci_2 ?_
  refine J_iadd (pc := 722) dL_law_722 ?_
  obtain ⟨h136, hh⟩ := gd_some hh
  refine J_cald (pc := 723) (f := X.2) dL_law_723 rfl h136 ?_
  obtain ⟨y137, hy137, hh⟩ := bd_some hh
  refine J_callVi (pc := 724) (M' := MX7_both) (a := 19) (rest := [.int y134.1]) (As := [.int (X.2 (v3 + (1 : Int32)).toNatClampNeg), .int (X.2 (v3 + (2 : Int32)).toNatClampNeg)]) (L0 := [some (.ref 19), some (.int (X.2 (v3 + (1 : Int32)).toNatClampNeg)), some (.int (X.2 (v3 + (2 : Int32)).toNatClampNeg))]) okX7_both ovX7_both mlL_74 clX7 so19 rfl rfl (Nat.le_of_ble_eq_true rfl) dL_law_724 rfl (Nat.le_of_ble_eq_true rfl) (jX7_both (X := X) (d + 9) y134.2 (X.2 (v3 + (1 : Int32)).toNatClampNeg) (X.2 (v3 + (2 : Int32)).toNatClampNeg) hy137) ?_
  refine J_icmp_eq (pc := 727) 1552 dL_law_727 (by decide) (fun c139 => ?_) (fun c139 => ?_)
  · replace hh := (if_pos c139).symm.trans hh
    refine J_iincL (pc := 1552) (v := v3 + (7 : Int32)) (fun x138 => [some (.ref 2002), some (.ref 0), some (.ref 19), some (.int x138)]) dL_law_1552 rfl rfl (Nat.le_of_ble_eq_true rfl) (congrArg _ ci_7) (fun _ => rfl) hh (fun x138 hh => ?_)
    refine J_goto (pc := 1555) 18 dL_law_1555 (by decide) ?_
    obtain rfl := Option.some.inj hh
    exact hk
  · replace hh := (if_neg c139).symm.trans hh
    refine J_iconst (pc := 730) dL_law_730 ci_0 ?_
    obtain rfl := Option.some.inj hh
    obtain ⟨rfl, rfl⟩ := hk
    exact J_ret (w := some (.int (0 : Int32))) ⟨dL_law_731, _, rfl, rfl⟩
def gL_law_732 (X : Scr) (s : Mem) (v3 : Int32) : Option (((Int32 × Mem) ⊕ Mem) ⊕ (Int32 × Mem)) :=
  gd (v3 + (1 : Int32)) X.1 (gd (v3 + (2 : Int32)) X.1 (gd (v3 + (3 : Int32)) X.1 ((fX6_put s (X.2 (v3 + (1 : Int32)).toNatClampNeg) (X.2 (v3 + (2 : Int32)).toNatClampNeg) (X.2 (v3 + (3 : Int32)).toNatClampNeg)).bind (fun y144 => gd (v3 + (1 : Int32)) X.1 (gd (v3 + (2 : Int32)) X.1 (gd (v3 + (3 : Int32)) X.1 ((fX7_put y144.2 (X.2 (v3 + (1 : Int32)).toNatClampNeg) (X.2 (v3 + (2 : Int32)).toNatClampNeg) (X.2 (v3 + (3 : Int32)).toNatClampNeg)).bind (fun y148 => if y144.1 = y148.1 then lt (v3 + (7 : Int32)) (fun x149 => some (Sum.inr (x149, y148.2))) else some (Sum.inl (Sum.inl (((0 : Int32), y148.2))))))))))))
set_option maxRecDepth 4000 in
theorem jgL_law_732 (d : Nat) (X : Scr) (s : Mem) (v3 : Int32) {r : (((Int32 × Mem) ⊕ Mem) ⊕ (Int32 × Mem))} {w : Option Value} {s' : Mem} (hh : gL_law_732 X s v3 = some r) (hk : Sum.elim (Sum.elim (fun q : (Int32 × Mem) => w = some (.int q.1) ∧ q.2 = s') (fun t : Mem => J X ML_law (d + 16) 1558 [none, none, none, none] [] t w s')) (fun a : (Int32 × Mem) => J X ML_law (d + 16) 18 [some (.ref 2002), some (.ref 0), some (.ref 19), some (.int a.1)] [] a.2 w s') r) : J X ML_law (d + 16) 732 [some (.ref 2002), some (.ref 0), some (.ref 19), some (.int v3)] [] s w s' := by
  unfold gL_law_732 at hh
  refine J_aload_n (pc := 732) dL_law_732 rfl ?_
  refine J_aload_n (pc := 733) dL_law_733 rfl ?_
  refine J_iload_n (pc := 734) dL_law_734 rfl ?_
  refine J_iconst (pc := 735) dL_law_735 ci_1 ?_
  refine J_iadd (pc := 736) dL_law_736 ?_
  obtain ⟨h141, hh⟩ := gd_some hh
  refine J_cald (pc := 737) (f := X.2) dL_law_737 rfl h141 ?_
  refine J_aload_n (pc := 738) dL_law_738 rfl ?_
  refine J_iload_n (pc := 739) dL_law_739 rfl ?_
  refine J_iconst (pc := 740) dL_law_740 ci_2 ?_
  refine J_iadd (pc := 741) dL_law_741 ?_
  obtain ⟨h142, hh⟩ := gd_some hh
  refine J_cald (pc := 742) (f := X.2) dL_law_742 rfl h142 ?_
  refine J_aload_n (pc := 743) dL_law_743 rfl ?_
  refine J_iload_n (pc := 744) dL_law_744 rfl ?_
  refine J_iconst (pc := 745) dL_law_745 ci_3 ?_
  refine J_iadd (pc := 746) dL_law_746 ?_
  obtain ⟨h143, hh⟩ := gd_some hh
  refine J_cald (pc := 747) (f := X.2) dL_law_747 rfl h143 ?_
  obtain ⟨y144, hy144, hh⟩ := bd_some hh
  refine J_callVi (pc := 748) (M' := MX6_put) (a := 0) (rest := []) (As := [.int (X.2 (v3 + (1 : Int32)).toNatClampNeg), .int (X.2 (v3 + (2 : Int32)).toNatClampNeg), .int (X.2 (v3 + (3 : Int32)).toNatClampNeg)]) (L0 := [some (.ref 0), some (.int (X.2 (v3 + (1 : Int32)).toNatClampNeg)), some (.int (X.2 (v3 + (2 : Int32)).toNatClampNeg)), some (.int (X.2 (v3 + (3 : Int32)).toNatClampNeg)), none]) okX6_put ovX6_put mlL_75 clX6 so0 rfl rfl (Nat.le_of_ble_eq_true rfl) dL_law_748 rfl (Nat.le_of_ble_eq_true rfl) (jX6_put (X := X) (d + 11) s (X.2 (v3 + (1 : Int32)).toNatClampNeg) (X.2 (v3 + (2 : Int32)).toNatClampNeg) (X.2 (v3 + (3 : Int32)).toNatClampNeg) hy144) ?_
  refine J_aload_n (pc := 751) dL_law_751 rfl ?_
  refine J_aload_n (pc := 752) dL_law_752 rfl ?_
  refine J_iload_n (pc := 753) dL_law_753 rfl ?_
  refine J_iconst (pc := 754) dL_law_754 ci_1 ?_
  refine J_iadd (pc := 755) dL_law_755 ?_
  obtain ⟨h145, hh⟩ := gd_some hh
  refine J_cald (pc := 756) (f := X.2) dL_law_756 rfl h145 ?_
  refine J_aload_n (pc := 757) dL_law_757 rfl ?_
  refine J_iload_n (pc := 758) dL_law_758 rfl ?_
  refine J_iconst (pc := 759) dL_law_759 ci_2 ?_
  refine J_iadd (pc := 760) dL_law_760 ?_
  obtain ⟨h146, hh⟩ := gd_some hh
  refine J_cald (pc := 761) (f := X.2) dL_law_761 rfl h146 ?_
  refine J_aload_n (pc := 762) dL_law_762 rfl ?_
  refine J_iload_n (pc := 763) dL_law_763 rfl ?_
  refine J_iconst (pc := 764) dL_law_764 ci_3 ?_
  refine J_iadd (pc := 765) dL_law_765 ?_
  obtain ⟨h147, hh⟩ := gd_some hh
  refine J_cald (pc := 766) (f := X.2) dL_law_766 rfl h147 ?_
  obtain ⟨y148, hy148, hh⟩ := bd_some hh
  refine J_callVi (pc := 767) (M' := MX7_put) (a := 19) (rest := [.int y144.1]) (As := [.int (X.2 (v3 + (1 : Int32)).toNatClampNeg), .int (X.2 (v3 + (2 : Int32)).toNatClampNeg), .int (X.2 (v3 + (3 : Int32)).toNatClampNeg)]) (L0 := [some (.ref 19), some (.int (X.2 (v3 + (1 : Int32)).toNatClampNeg)), some (.int (X.2 (v3 + (2 : Int32)).toNatClampNeg)), some (.int (X.2 (v3 + (3 : Int32)).toNatClampNeg)), none, none]) okX7_put ovX7_put mlL_78 clX7 so19 rfl rfl (Nat.le_of_ble_eq_true rfl) dL_law_767 rfl (Nat.le_of_ble_eq_true rfl) (jX7_put (X := X) (d + 7) y144.2 (X.2 (v3 + (1 : Int32)).toNatClampNeg) (X.2 (v3 + (2 : Int32)).toNatClampNeg) (X.2 (v3 + (3 : Int32)).toNatClampNeg) hy148) ?_
  refine J_icmp_eq (pc := 770) 1552 dL_law_770 (by decide) (fun c150 => ?_) (fun c150 => ?_)
  · replace hh := (if_pos c150).symm.trans hh
    refine J_iincL (pc := 1552) (v := v3 + (7 : Int32)) (fun x149 => [some (.ref 2002), some (.ref 0), some (.ref 19), some (.int x149)]) dL_law_1552 rfl rfl (Nat.le_of_ble_eq_true rfl) (congrArg _ ci_7) (fun _ => rfl) hh (fun x149 hh => ?_)
    refine J_goto (pc := 1555) 18 dL_law_1555 (by decide) ?_
    obtain rfl := Option.some.inj hh
    exact hk
  · replace hh := (if_neg c150).symm.trans hh
    refine J_iconst (pc := 773) dL_law_773 ci_0 ?_
    obtain rfl := Option.some.inj hh
    obtain ⟨rfl, rfl⟩ := hk
    exact J_ret (w := some (.int (0 : Int32))) ⟨dL_law_774, _, rfl, rfl⟩
def gL_law_775 (X : Scr) (s : Mem) (v3 : Int32) : Option (((Int32 × Mem) ⊕ Mem) ⊕ (Int32 × Mem)) :=
  gd (v3 + (1 : Int32)) X.1 (gd (v3 + (2 : Int32)) X.1 ((fX6_out s (X.2 (v3 + (1 : Int32)).toNatClampNeg) (X.2 (v3 + (2 : Int32)).toNatClampNeg)).bind (fun y154 => gd (v3 + (1 : Int32)) X.1 (gd (v3 + (2 : Int32)) X.1 ((fX7_out y154.2 (X.2 (v3 + (1 : Int32)).toNatClampNeg) (X.2 (v3 + (2 : Int32)).toNatClampNeg)).bind (fun y157 => if y154.1 = y157.1 then lt (v3 + (7 : Int32)) (fun x158 => some (Sum.inr (x158, y157.2))) else some (Sum.inl (Sum.inl (((0 : Int32), y157.2))))))))))
set_option maxRecDepth 4000 in
theorem jgL_law_775 (d : Nat) (X : Scr) (s : Mem) (v3 : Int32) {r : (((Int32 × Mem) ⊕ Mem) ⊕ (Int32 × Mem))} {w : Option Value} {s' : Mem} (hh : gL_law_775 X s v3 = some r) (hk : Sum.elim (Sum.elim (fun q : (Int32 × Mem) => w = some (.int q.1) ∧ q.2 = s') (fun t : Mem => J X ML_law (d + 16) 1558 [none, none, none, none] [] t w s')) (fun a : (Int32 × Mem) => J X ML_law (d + 16) 18 [some (.ref 2002), some (.ref 0), some (.ref 19), some (.int a.1)] [] a.2 w s') r) : J X ML_law (d + 16) 775 [some (.ref 2002), some (.ref 0), some (.ref 19), some (.int v3)] [] s w s' := by
  unfold gL_law_775 at hh
  refine J_aload_n (pc := 775) dL_law_775 rfl ?_
  refine J_aload_n (pc := 776) dL_law_776 rfl ?_
  refine J_iload_n (pc := 777) dL_law_777 rfl ?_
  refine J_iconst (pc := 778) dL_law_778 ci_1 ?_
  refine J_iadd (pc := 779) dL_law_779 ?_
  obtain ⟨h152, hh⟩ := gd_some hh
  refine J_cald (pc := 780) (f := X.2) dL_law_780 rfl h152 ?_
  refine J_aload_n (pc := 781) dL_law_781 rfl ?_
  refine J_iload_n (pc := 782) dL_law_782 rfl ?_
  refine J_iconst (pc := 783) dL_law_783 ci_2 ?_
  refine J_iadd (pc := 784) dL_law_784 ?_
  obtain ⟨h153, hh⟩ := gd_some hh
  refine J_cald (pc := 785) (f := X.2) dL_law_785 rfl h153 ?_
  obtain ⟨y154, hy154, hh⟩ := bd_some hh
  refine J_callVi (pc := 786) (M' := MX6_out) (a := 0) (rest := []) (As := [.int (X.2 (v3 + (1 : Int32)).toNatClampNeg), .int (X.2 (v3 + (2 : Int32)).toNatClampNeg)]) (L0 := [some (.ref 0), some (.int (X.2 (v3 + (1 : Int32)).toNatClampNeg)), some (.int (X.2 (v3 + (2 : Int32)).toNatClampNeg))]) okX6_out ovX6_out mlL_79 clX6 so0 rfl rfl (Nat.le_of_ble_eq_true rfl) dL_law_786 rfl (Nat.le_of_ble_eq_true rfl) (jX6_out (X := X) (d + 11) s (X.2 (v3 + (1 : Int32)).toNatClampNeg) (X.2 (v3 + (2 : Int32)).toNatClampNeg) hy154) ?_
  refine J_aload_n (pc := 789) dL_law_789 rfl ?_
  refine J_aload_n (pc := 790) dL_law_790 rfl ?_
  refine J_iload_n (pc := 791) dL_law_791 rfl ?_
  refine J_iconst (pc := 792) dL_law_792 ci_1 ?_
  refine J_iadd (pc := 793) dL_law_793 ?_
  obtain ⟨h155, hh⟩ := gd_some hh
  refine J_cald (pc := 794) (f := X.2) dL_law_794 rfl h155 ?_
  refine J_aload_n (pc := 795) dL_law_795 rfl ?_
  refine J_iload_n (pc := 796) dL_law_796 rfl ?_
  refine J_iconst (pc := 797) dL_law_797 ci_2 ?_
  refine J_iadd (pc := 798) dL_law_798 ?_
  obtain ⟨h156, hh⟩ := gd_some hh
  refine J_cald (pc := 799) (f := X.2) dL_law_799 rfl h156 ?_
  obtain ⟨y157, hy157, hh⟩ := bd_some hh
  refine J_callVi (pc := 800) (M' := MX7_out) (a := 19) (rest := [.int y154.1]) (As := [.int (X.2 (v3 + (1 : Int32)).toNatClampNeg), .int (X.2 (v3 + (2 : Int32)).toNatClampNeg)]) (L0 := [some (.ref 19), some (.int (X.2 (v3 + (1 : Int32)).toNatClampNeg)), some (.int (X.2 (v3 + (2 : Int32)).toNatClampNeg)), none]) okX7_out ovX7_out mlL_82 clX7 so19 rfl rfl (Nat.le_of_ble_eq_true rfl) dL_law_800 rfl (Nat.le_of_ble_eq_true rfl) (jX7_out (X := X) (d + 13) y154.2 (X.2 (v3 + (1 : Int32)).toNatClampNeg) (X.2 (v3 + (2 : Int32)).toNatClampNeg) hy157) ?_
  refine J_icmp_eq (pc := 803) 1552 dL_law_803 (by decide) (fun c159 => ?_) (fun c159 => ?_)
  · replace hh := (if_pos c159).symm.trans hh
    refine J_iincL (pc := 1552) (v := v3 + (7 : Int32)) (fun x158 => [some (.ref 2002), some (.ref 0), some (.ref 19), some (.int x158)]) dL_law_1552 rfl rfl (Nat.le_of_ble_eq_true rfl) (congrArg _ ci_7) (fun _ => rfl) hh (fun x158 hh => ?_)
    refine J_goto (pc := 1555) 18 dL_law_1555 (by decide) ?_
    obtain rfl := Option.some.inj hh
    exact hk
  · replace hh := (if_neg c159).symm.trans hh
    refine J_iconst (pc := 806) dL_law_806 ci_0 ?_
    obtain rfl := Option.some.inj hh
    obtain ⟨rfl, rfl⟩ := hk
    exact J_ret (w := some (.int (0 : Int32))) ⟨dL_law_807, _, rfl, rfl⟩
def gL_law_808 (X : Scr) (s : Mem) (v3 : Int32) : Option (((Int32 × Mem) ⊕ Mem) ⊕ (Int32 × Mem)) :=
  gd (v3 + (1 : Int32)) X.1 (gd (v3 + (2 : Int32)) X.1 (gd (v3 + (3 : Int32)) X.1 ((fX6_pick s (X.2 (v3 + (1 : Int32)).toNatClampNeg) (X.2 (v3 + (2 : Int32)).toNatClampNeg) (X.2 (v3 + (3 : Int32)).toNatClampNeg)).bind (fun y164 => gd (v3 + (1 : Int32)) X.1 (gd (v3 + (2 : Int32)) X.1 (gd (v3 + (3 : Int32)) X.1 ((fX7_pick y164.2 (X.2 (v3 + (1 : Int32)).toNatClampNeg) (X.2 (v3 + (2 : Int32)).toNatClampNeg) (X.2 (v3 + (3 : Int32)).toNatClampNeg)).bind (fun y168 => if y164.1 = y168.1 then lt (v3 + (7 : Int32)) (fun x169 => some (Sum.inr (x169, y168.2))) else some (Sum.inl (Sum.inl (((0 : Int32), y168.2))))))))))))
set_option maxRecDepth 4000 in
theorem jgL_law_808 (d : Nat) (X : Scr) (s : Mem) (v3 : Int32) {r : (((Int32 × Mem) ⊕ Mem) ⊕ (Int32 × Mem))} {w : Option Value} {s' : Mem} (hh : gL_law_808 X s v3 = some r) (hk : Sum.elim (Sum.elim (fun q : (Int32 × Mem) => w = some (.int q.1) ∧ q.2 = s') (fun t : Mem => J X ML_law (d + 16) 1558 [none, none, none, none] [] t w s')) (fun a : (Int32 × Mem) => J X ML_law (d + 16) 18 [some (.ref 2002), some (.ref 0), some (.ref 19), some (.int a.1)] [] a.2 w s') r) : J X ML_law (d + 16) 808 [some (.ref 2002), some (.ref 0), some (.ref 19), some (.int v3)] [] s w s' := by
  unfold gL_law_808 at hh
  refine J_aload_n (pc := 808) dL_law_808 rfl ?_
  refine J_aload_n (pc := 809) dL_law_809 rfl ?_
  refine J_iload_n (pc := 810) dL_law_810 rfl ?_
  refine J_iconst (pc := 811) dL_law_811 ci_1 ?_
  refine J_iadd (pc := 812) dL_law_812 ?_
  obtain ⟨h161, hh⟩ := gd_some hh
  refine J_cald (pc := 813) (f := X.2) dL_law_813 rfl h161 ?_
  refine J_aload_n (pc := 814) dL_law_814 rfl ?_
  refine J_iload_n (pc := 815) dL_law_815 rfl ?_
  refine J_iconst (pc := 816) dL_law_816 ci_2 ?_
  refine J_iadd (pc := 817) dL_law_817 ?_
  obtain ⟨h162, hh⟩ := gd_some hh
  refine J_cald (pc := 818) (f := X.2) dL_law_818 rfl h162 ?_
  refine J_aload_n (pc := 819) dL_law_819 rfl ?_
  refine J_iload_n (pc := 820) dL_law_820 rfl ?_
  refine J_iconst (pc := 821) dL_law_821 ci_3 ?_
  refine J_iadd (pc := 822) dL_law_822 ?_
  obtain ⟨h163, hh⟩ := gd_some hh
  refine J_cald (pc := 823) (f := X.2) dL_law_823 rfl h163 ?_
  obtain ⟨y164, hy164, hh⟩ := bd_some hh
  refine J_callVi (pc := 824) (M' := MX6_pick) (a := 0) (rest := []) (As := [.int (X.2 (v3 + (1 : Int32)).toNatClampNeg), .int (X.2 (v3 + (2 : Int32)).toNatClampNeg), .int (X.2 (v3 + (3 : Int32)).toNatClampNeg)]) (L0 := [some (.ref 0), some (.int (X.2 (v3 + (1 : Int32)).toNatClampNeg)), some (.int (X.2 (v3 + (2 : Int32)).toNatClampNeg)), some (.int (X.2 (v3 + (3 : Int32)).toNatClampNeg)), none]) okX6_pick ovX6_pick mlL_83 clX6 so0 rfl rfl (Nat.le_of_ble_eq_true rfl) dL_law_824 rfl (Nat.le_of_ble_eq_true rfl) (jX6_pick (X := X) (d + 10) s (X.2 (v3 + (1 : Int32)).toNatClampNeg) (X.2 (v3 + (2 : Int32)).toNatClampNeg) (X.2 (v3 + (3 : Int32)).toNatClampNeg) hy164) ?_
  refine J_aload_n (pc := 827) dL_law_827 rfl ?_
  refine J_aload_n (pc := 828) dL_law_828 rfl ?_
  refine J_iload_n (pc := 829) dL_law_829 rfl ?_
  refine J_iconst (pc := 830) dL_law_830 ci_1 ?_
  refine J_iadd (pc := 831) dL_law_831 ?_
  obtain ⟨h165, hh⟩ := gd_some hh
  refine J_cald (pc := 832) (f := X.2) dL_law_832 rfl h165 ?_
  refine J_aload_n (pc := 833) dL_law_833 rfl ?_
  refine J_iload_n (pc := 834) dL_law_834 rfl ?_
  refine J_iconst (pc := 835) dL_law_835 ci_2 ?_
  refine J_iadd (pc := 836) dL_law_836 ?_
  obtain ⟨h166, hh⟩ := gd_some hh
  refine J_cald (pc := 837) (f := X.2) dL_law_837 rfl h166 ?_
  refine J_aload_n (pc := 838) dL_law_838 rfl ?_
  refine J_iload_n (pc := 839) dL_law_839 rfl ?_
  refine J_iconst (pc := 840) dL_law_840 ci_3 ?_
  refine J_iadd (pc := 841) dL_law_841 ?_
  obtain ⟨h167, hh⟩ := gd_some hh
  refine J_cald (pc := 842) (f := X.2) dL_law_842 rfl h167 ?_
  obtain ⟨y168, hy168, hh⟩ := bd_some hh
  refine J_callVi (pc := 843) (M' := MX7_pick) (a := 19) (rest := [.int y164.1]) (As := [.int (X.2 (v3 + (1 : Int32)).toNatClampNeg), .int (X.2 (v3 + (2 : Int32)).toNatClampNeg), .int (X.2 (v3 + (3 : Int32)).toNatClampNeg)]) (L0 := [some (.ref 19), some (.int (X.2 (v3 + (1 : Int32)).toNatClampNeg)), some (.int (X.2 (v3 + (2 : Int32)).toNatClampNeg)), some (.int (X.2 (v3 + (3 : Int32)).toNatClampNeg)), none]) okX7_pick ovX7_pick mlL_86 clX7 so19 rfl rfl (Nat.le_of_ble_eq_true rfl) dL_law_843 rfl (Nat.le_of_ble_eq_true rfl) (jX7_pick (X := X) (d + 5) y164.2 (X.2 (v3 + (1 : Int32)).toNatClampNeg) (X.2 (v3 + (2 : Int32)).toNatClampNeg) (X.2 (v3 + (3 : Int32)).toNatClampNeg) hy168) ?_
  refine J_icmp_eq (pc := 846) 1552 dL_law_846 (by decide) (fun c170 => ?_) (fun c170 => ?_)
  · replace hh := (if_pos c170).symm.trans hh
    refine J_iincL (pc := 1552) (v := v3 + (7 : Int32)) (fun x169 => [some (.ref 2002), some (.ref 0), some (.ref 19), some (.int x169)]) dL_law_1552 rfl rfl (Nat.le_of_ble_eq_true rfl) (congrArg _ ci_7) (fun _ => rfl) hh (fun x169 hh => ?_)
    refine J_goto (pc := 1555) 18 dL_law_1555 (by decide) ?_
    obtain rfl := Option.some.inj hh
    exact hk
  · replace hh := (if_neg c170).symm.trans hh
    refine J_iconst (pc := 849) dL_law_849 ci_0 ?_
    obtain rfl := Option.some.inj hh
    obtain ⟨rfl, rfl⟩ := hk
    exact J_ret (w := some (.int (0 : Int32))) ⟨dL_law_850, _, rfl, rfl⟩
def gL_law_851 (X : Scr) (s : Mem) (v3 : Int32) : Option (((Int32 × Mem) ⊕ Mem) ⊕ (Int32 × Mem)) :=
  gd (v3 + (1 : Int32)) X.1 (gd (v3 + (2 : Int32)) X.1 (gd (v3 + (3 : Int32)) X.1 ((fX6_would s (X.2 (v3 + (1 : Int32)).toNatClampNeg) (X.2 (v3 + (2 : Int32)).toNatClampNeg) (X.2 (v3 + (3 : Int32)).toNatClampNeg)).bind (fun y175 => gd (v3 + (1 : Int32)) X.1 (gd (v3 + (2 : Int32)) X.1 (gd (v3 + (3 : Int32)) X.1 ((fX7_would y175.2 (X.2 (v3 + (1 : Int32)).toNatClampNeg) (X.2 (v3 + (2 : Int32)).toNatClampNeg) (X.2 (v3 + (3 : Int32)).toNatClampNeg)).bind (fun y179 => if y175.1 = y179.1 then lt (v3 + (7 : Int32)) (fun x180 => some (Sum.inr (x180, y179.2))) else some (Sum.inl (Sum.inl (((0 : Int32), y179.2))))))))))))
set_option maxRecDepth 4000 in
theorem jgL_law_851 (d : Nat) (X : Scr) (s : Mem) (v3 : Int32) {r : (((Int32 × Mem) ⊕ Mem) ⊕ (Int32 × Mem))} {w : Option Value} {s' : Mem} (hh : gL_law_851 X s v3 = some r) (hk : Sum.elim (Sum.elim (fun q : (Int32 × Mem) => w = some (.int q.1) ∧ q.2 = s') (fun t : Mem => J X ML_law (d + 16) 1558 [none, none, none, none] [] t w s')) (fun a : (Int32 × Mem) => J X ML_law (d + 16) 18 [some (.ref 2002), some (.ref 0), some (.ref 19), some (.int a.1)] [] a.2 w s') r) : J X ML_law (d + 16) 851 [some (.ref 2002), some (.ref 0), some (.ref 19), some (.int v3)] [] s w s' := by
  unfold gL_law_851 at hh
  refine J_aload_n (pc := 851) dL_law_851 rfl ?_
  refine J_aload_n (pc := 852) dL_law_852 rfl ?_
  refine J_iload_n (pc := 853) dL_law_853 rfl ?_
  refine J_iconst (pc := 854) dL_law_854 ci_1 ?_
  refine J_iadd (pc := 855) dL_law_855 ?_
  obtain ⟨h172, hh⟩ := gd_some hh
  refine J_cald (pc := 856) (f := X.2) dL_law_856 rfl h172 ?_
  refine J_aload_n (pc := 857) dL_law_857 rfl ?_
  refine J_iload_n (pc := 858) dL_law_858 rfl ?_
  refine J_iconst (pc := 859) dL_law_859 ci_2 ?_
  refine J_iadd (pc := 860) dL_law_860 ?_
  obtain ⟨h173, hh⟩ := gd_some hh
  refine J_cald (pc := 861) (f := X.2) dL_law_861 rfl h173 ?_
  refine J_aload_n (pc := 862) dL_law_862 rfl ?_
  refine J_iload_n (pc := 863) dL_law_863 rfl ?_
  refine J_iconst (pc := 864) dL_law_864 ci_3 ?_
  refine J_iadd (pc := 865) dL_law_865 ?_
  obtain ⟨h174, hh⟩ := gd_some hh
  refine J_cald (pc := 866) (f := X.2) dL_law_866 rfl h174 ?_
  obtain ⟨y175, hy175, hh⟩ := bd_some hh
  refine J_callVi (pc := 867) (M' := MX6_would) (a := 0) (rest := []) (As := [.int (X.2 (v3 + (1 : Int32)).toNatClampNeg), .int (X.2 (v3 + (2 : Int32)).toNatClampNeg), .int (X.2 (v3 + (3 : Int32)).toNatClampNeg)]) (L0 := [some (.ref 0), some (.int (X.2 (v3 + (1 : Int32)).toNatClampNeg)), some (.int (X.2 (v3 + (2 : Int32)).toNatClampNeg)), some (.int (X.2 (v3 + (3 : Int32)).toNatClampNeg)), none]) okX6_would ovX6_would mlL_87 clX6 so0 rfl rfl (Nat.le_of_ble_eq_true rfl) dL_law_867 rfl (Nat.le_of_ble_eq_true rfl) (jX6_would (X := X) (d + 10) s (X.2 (v3 + (1 : Int32)).toNatClampNeg) (X.2 (v3 + (2 : Int32)).toNatClampNeg) (X.2 (v3 + (3 : Int32)).toNatClampNeg) hy175) ?_
  refine J_aload_n (pc := 870) dL_law_870 rfl ?_
  refine J_aload_n (pc := 871) dL_law_871 rfl ?_
  refine J_iload_n (pc := 872) dL_law_872 rfl ?_
  refine J_iconst (pc := 873) dL_law_873 ci_1 ?_
  refine J_iadd (pc := 874) dL_law_874 ?_
  obtain ⟨h176, hh⟩ := gd_some hh
  refine J_cald (pc := 875) (f := X.2) dL_law_875 rfl h176 ?_
  refine J_aload_n (pc := 876) dL_law_876 rfl ?_
  refine J_iload_n (pc := 877) dL_law_877 rfl ?_
  refine J_iconst (pc := 878) dL_law_878 ci_2 ?_
  refine J_iadd (pc := 879) dL_law_879 ?_
  obtain ⟨h177, hh⟩ := gd_some hh
  refine J_cald (pc := 880) (f := X.2) dL_law_880 rfl h177 ?_
  refine J_aload_n (pc := 881) dL_law_881 rfl ?_
  refine J_iload_n (pc := 882) dL_law_882 rfl ?_
  refine J_iconst (pc := 883) dL_law_883 ci_3 ?_
  refine J_iadd (pc := 884) dL_law_884 ?_
  obtain ⟨h178, hh⟩ := gd_some hh
  refine J_cald (pc := 885) (f := X.2) dL_law_885 rfl h178 ?_
  obtain ⟨y179, hy179, hh⟩ := bd_some hh
  refine J_callVi (pc := 886) (M' := MX7_would) (a := 19) (rest := [.int y175.1]) (As := [.int (X.2 (v3 + (1 : Int32)).toNatClampNeg), .int (X.2 (v3 + (2 : Int32)).toNatClampNeg), .int (X.2 (v3 + (3 : Int32)).toNatClampNeg)]) (L0 := [some (.ref 19), some (.int (X.2 (v3 + (1 : Int32)).toNatClampNeg)), some (.int (X.2 (v3 + (2 : Int32)).toNatClampNeg)), some (.int (X.2 (v3 + (3 : Int32)).toNatClampNeg)), none]) okX7_would ovX7_would mlL_90 clX7 so19 rfl rfl (Nat.le_of_ble_eq_true rfl) dL_law_886 rfl (Nat.le_of_ble_eq_true rfl) (jX7_would (X := X) (d + 5) y175.2 (X.2 (v3 + (1 : Int32)).toNatClampNeg) (X.2 (v3 + (2 : Int32)).toNatClampNeg) (X.2 (v3 + (3 : Int32)).toNatClampNeg) hy179) ?_
  refine J_icmp_eq (pc := 889) 1552 dL_law_889 (by decide) (fun c181 => ?_) (fun c181 => ?_)
  · replace hh := (if_pos c181).symm.trans hh
    refine J_iincL (pc := 1552) (v := v3 + (7 : Int32)) (fun x180 => [some (.ref 2002), some (.ref 0), some (.ref 19), some (.int x180)]) dL_law_1552 rfl rfl (Nat.le_of_ble_eq_true rfl) (congrArg _ ci_7) (fun _ => rfl) hh (fun x180 hh => ?_)
    refine J_goto (pc := 1555) 18 dL_law_1555 (by decide) ?_
    obtain rfl := Option.some.inj hh
    exact hk
  · replace hh := (if_neg c181).symm.trans hh
    refine J_iconst (pc := 892) dL_law_892 ci_0 ?_
    obtain rfl := Option.some.inj hh
    obtain ⟨rfl, rfl⟩ := hk
    exact J_ret (w := some (.int (0 : Int32))) ⟨dL_law_893, _, rfl, rfl⟩
def gL_law_894 (X : Scr) (s : Mem) (v3 : Int32) : Option (((Int32 × Mem) ⊕ Mem) ⊕ (Int32 × Mem)) :=
  gd (v3 + (1 : Int32)) X.1 ((fX6_fill s (X.2 (v3 + (1 : Int32)).toNatClampNeg)).bind (fun y184 => gd (v3 + (1 : Int32)) X.1 ((fX7_fill y184.2 (X.2 (v3 + (1 : Int32)).toNatClampNeg)).bind (fun y186 => if y184.1 = y186.1 then lt (v3 + (7 : Int32)) (fun x187 => some (Sum.inr (x187, y186.2))) else some (Sum.inl (Sum.inl (((0 : Int32), y186.2))))))))
set_option maxRecDepth 4000 in
theorem jgL_law_894 (d : Nat) (X : Scr) (s : Mem) (v3 : Int32) {r : (((Int32 × Mem) ⊕ Mem) ⊕ (Int32 × Mem))} {w : Option Value} {s' : Mem} (hh : gL_law_894 X s v3 = some r) (hk : Sum.elim (Sum.elim (fun q : (Int32 × Mem) => w = some (.int q.1) ∧ q.2 = s') (fun t : Mem => J X ML_law (d + 16) 1558 [none, none, none, none] [] t w s')) (fun a : (Int32 × Mem) => J X ML_law (d + 16) 18 [some (.ref 2002), some (.ref 0), some (.ref 19), some (.int a.1)] [] a.2 w s') r) : J X ML_law (d + 16) 894 [some (.ref 2002), some (.ref 0), some (.ref 19), some (.int v3)] [] s w s' := by
  unfold gL_law_894 at hh
  refine J_aload_n (pc := 894) dL_law_894 rfl ?_
  refine J_aload_n (pc := 895) dL_law_895 rfl ?_
  refine J_iload_n (pc := 896) dL_law_896 rfl ?_
  refine J_iconst (pc := 897) dL_law_897 ci_1 ?_
  refine J_iadd (pc := 898) dL_law_898 ?_
  obtain ⟨h183, hh⟩ := gd_some hh
  refine J_cald (pc := 899) (f := X.2) dL_law_899 rfl h183 ?_
  obtain ⟨y184, hy184, hh⟩ := bd_some hh
  refine J_callVi (pc := 900) (M' := MX6_fill) (a := 0) (rest := []) (As := [.int (X.2 (v3 + (1 : Int32)).toNatClampNeg)]) (L0 := [some (.ref 0), some (.int (X.2 (v3 + (1 : Int32)).toNatClampNeg)), none, none, none]) okX6_fill ovX6_fill mlL_91 clX6 so0 rfl rfl (Nat.le_of_ble_eq_true rfl) dL_law_900 rfl (Nat.le_of_ble_eq_true rfl) (jX6_fill (X := X) (d + 9) s (X.2 (v3 + (1 : Int32)).toNatClampNeg) hy184) ?_
  refine J_aload_n (pc := 903) dL_law_903 rfl ?_
  refine J_aload_n (pc := 904) dL_law_904 rfl ?_
  refine J_iload_n (pc := 905) dL_law_905 rfl ?_
  refine J_iconst (pc := 906) dL_law_906 ci_1 ?_
  refine J_iadd (pc := 907) dL_law_907 ?_
  obtain ⟨h185, hh⟩ := gd_some hh
  refine J_cald (pc := 908) (f := X.2) dL_law_908 rfl h185 ?_
  obtain ⟨y186, hy186, hh⟩ := bd_some hh
  refine J_callVi (pc := 909) (M' := MX7_fill) (a := 19) (rest := [.int y184.1]) (As := [.int (X.2 (v3 + (1 : Int32)).toNatClampNeg)]) (L0 := [some (.ref 19), some (.int (X.2 (v3 + (1 : Int32)).toNatClampNeg)), none, none, none]) okX7_fill ovX7_fill mlL_94 clX7 so19 rfl rfl (Nat.le_of_ble_eq_true rfl) dL_law_909 rfl (Nat.le_of_ble_eq_true rfl) (jX7_fill (X := X) (d + 4) y184.2 (X.2 (v3 + (1 : Int32)).toNatClampNeg) hy186) ?_
  refine J_icmp_eq (pc := 912) 1552 dL_law_912 (by decide) (fun c188 => ?_) (fun c188 => ?_)
  · replace hh := (if_pos c188).symm.trans hh
    refine J_iincL (pc := 1552) (v := v3 + (7 : Int32)) (fun x187 => [some (.ref 2002), some (.ref 0), some (.ref 19), some (.int x187)]) dL_law_1552 rfl rfl (Nat.le_of_ble_eq_true rfl) (congrArg _ ci_7) (fun _ => rfl) hh (fun x187 hh => ?_)
    refine J_goto (pc := 1555) 18 dL_law_1555 (by decide) ?_
    obtain rfl := Option.some.inj hh
    exact hk
  · replace hh := (if_neg c188).symm.trans hh
    refine J_iconst (pc := 915) dL_law_915 ci_0 ?_
    obtain rfl := Option.some.inj hh
    obtain ⟨rfl, rfl⟩ := hk
    exact J_ret (w := some (.int (0 : Int32))) ⟨dL_law_916, _, rfl, rfl⟩
def gL_law_917 (X : Scr) (s : Mem) (v3 : Int32) : Option (((Int32 × Mem) ⊕ Mem) ⊕ (Int32 × Mem)) :=
  gd (v3 + (1 : Int32)) X.1 (gd (v3 + (2 : Int32)) X.1 (gd (v3 + (3 : Int32)) X.1 ((fX6_trade s (X.2 (v3 + (1 : Int32)).toNatClampNeg) (X.2 (v3 + (2 : Int32)).toNatClampNeg) (X.2 (v3 + (3 : Int32)).toNatClampNeg)).bind (fun y193 => gd (v3 + (1 : Int32)) X.1 (gd (v3 + (2 : Int32)) X.1 (gd (v3 + (3 : Int32)) X.1 ((fX7_trade y193.2 (X.2 (v3 + (1 : Int32)).toNatClampNeg) (X.2 (v3 + (2 : Int32)).toNatClampNeg) (X.2 (v3 + (3 : Int32)).toNatClampNeg)).bind (fun y197 => if y193.1 = y197.1 then lt (v3 + (7 : Int32)) (fun x198 => some (Sum.inr (x198, y197.2))) else some (Sum.inl (Sum.inl (((0 : Int32), y197.2))))))))))))
set_option maxRecDepth 4000 in
theorem jgL_law_917 (d : Nat) (X : Scr) (s : Mem) (v3 : Int32) {r : (((Int32 × Mem) ⊕ Mem) ⊕ (Int32 × Mem))} {w : Option Value} {s' : Mem} (hh : gL_law_917 X s v3 = some r) (hk : Sum.elim (Sum.elim (fun q : (Int32 × Mem) => w = some (.int q.1) ∧ q.2 = s') (fun t : Mem => J X ML_law (d + 16) 1558 [none, none, none, none] [] t w s')) (fun a : (Int32 × Mem) => J X ML_law (d + 16) 18 [some (.ref 2002), some (.ref 0), some (.ref 19), some (.int a.1)] [] a.2 w s') r) : J X ML_law (d + 16) 917 [some (.ref 2002), some (.ref 0), some (.ref 19), some (.int v3)] [] s w s' := by
  unfold gL_law_917 at hh
  refine J_aload_n (pc := 917) dL_law_917 rfl ?_
  refine J_aload_n (pc := 918) dL_law_918 rfl ?_
  refine J_iload_n (pc := 919) dL_law_919 rfl ?_
  refine J_iconst (pc := 920) dL_law_920 ci_1 ?_
  refine J_iadd (pc := 921) dL_law_921 ?_
  obtain ⟨h190, hh⟩ := gd_some hh
  refine J_cald (pc := 922) (f := X.2) dL_law_922 rfl h190 ?_
  refine J_aload_n (pc := 923) dL_law_923 rfl ?_
  refine J_iload_n (pc := 924) dL_law_924 rfl ?_
  refine J_iconst (pc := 925) dL_law_925 ci_2 ?_
  refine J_iadd (pc := 926) dL_law_926 ?_
  obtain ⟨h191, hh⟩ := gd_some hh
  refine J_cald (pc := 927) (f := X.2) dL_law_927 rfl h191 ?_
  refine J_aload_n (pc := 928) dL_law_928 rfl ?_
  refine J_iload_n (pc := 929) dL_law_929 rfl ?_
  refine J_iconst (pc := 930) dL_law_930 ci_3 ?_
  refine J_iadd (pc := 931) dL_law_931 ?_
  obtain ⟨h192, hh⟩ := gd_some hh
  refine J_cald (pc := 932) (f := X.2) dL_law_932 rfl h192 ?_
  obtain ⟨y193, hy193, hh⟩ := bd_some hh
  refine J_callVi (pc := 933) (M' := MX6_trade) (a := 0) (rest := []) (As := [.int (X.2 (v3 + (1 : Int32)).toNatClampNeg), .int (X.2 (v3 + (2 : Int32)).toNatClampNeg), .int (X.2 (v3 + (3 : Int32)).toNatClampNeg)]) (L0 := [some (.ref 0), some (.int (X.2 (v3 + (1 : Int32)).toNatClampNeg)), some (.int (X.2 (v3 + (2 : Int32)).toNatClampNeg)), some (.int (X.2 (v3 + (3 : Int32)).toNatClampNeg)), none, none]) okX6_trade ovX6_trade mlL_95 clX6 so0 rfl rfl (Nat.le_of_ble_eq_true rfl) dL_law_933 rfl (Nat.le_of_ble_eq_true rfl) (jX6_trade (X := X) (d + 11) s (X.2 (v3 + (1 : Int32)).toNatClampNeg) (X.2 (v3 + (2 : Int32)).toNatClampNeg) (X.2 (v3 + (3 : Int32)).toNatClampNeg) hy193) ?_
  refine J_aload_n (pc := 936) dL_law_936 rfl ?_
  refine J_aload_n (pc := 937) dL_law_937 rfl ?_
  refine J_iload_n (pc := 938) dL_law_938 rfl ?_
  refine J_iconst (pc := 939) dL_law_939 ci_1 ?_
  refine J_iadd (pc := 940) dL_law_940 ?_
  obtain ⟨h194, hh⟩ := gd_some hh
  refine J_cald (pc := 941) (f := X.2) dL_law_941 rfl h194 ?_
  refine J_aload_n (pc := 942) dL_law_942 rfl ?_
  refine J_iload_n (pc := 943) dL_law_943 rfl ?_
  refine J_iconst (pc := 944) dL_law_944 ci_2 ?_
  refine J_iadd (pc := 945) dL_law_945 ?_
  obtain ⟨h195, hh⟩ := gd_some hh
  refine J_cald (pc := 946) (f := X.2) dL_law_946 rfl h195 ?_
  refine J_aload_n (pc := 947) dL_law_947 rfl ?_
  refine J_iload_n (pc := 948) dL_law_948 rfl ?_
  refine J_iconst (pc := 949) dL_law_949 ci_3 ?_
  refine J_iadd (pc := 950) dL_law_950 ?_
  obtain ⟨h196, hh⟩ := gd_some hh
  refine J_cald (pc := 951) (f := X.2) dL_law_951 rfl h196 ?_
  obtain ⟨y197, hy197, hh⟩ := bd_some hh
  refine J_callVi (pc := 952) (M' := MX7_trade) (a := 19) (rest := [.int y193.1]) (As := [.int (X.2 (v3 + (1 : Int32)).toNatClampNeg), .int (X.2 (v3 + (2 : Int32)).toNatClampNeg), .int (X.2 (v3 + (3 : Int32)).toNatClampNeg)]) (L0 := [some (.ref 19), some (.int (X.2 (v3 + (1 : Int32)).toNatClampNeg)), some (.int (X.2 (v3 + (2 : Int32)).toNatClampNeg)), some (.int (X.2 (v3 + (3 : Int32)).toNatClampNeg)), none, none]) okX7_trade ovX7_trade mlL_98 clX7 so19 rfl rfl (Nat.le_of_ble_eq_true rfl) dL_law_952 rfl (Nat.le_of_ble_eq_true rfl) (jX7_trade (X := X) (d + 8) y193.2 (X.2 (v3 + (1 : Int32)).toNatClampNeg) (X.2 (v3 + (2 : Int32)).toNatClampNeg) (X.2 (v3 + (3 : Int32)).toNatClampNeg) hy197) ?_
  refine J_icmp_eq (pc := 955) 1552 dL_law_955 (by decide) (fun c199 => ?_) (fun c199 => ?_)
  · replace hh := (if_pos c199).symm.trans hh
    refine J_iincL (pc := 1552) (v := v3 + (7 : Int32)) (fun x198 => [some (.ref 2002), some (.ref 0), some (.ref 19), some (.int x198)]) dL_law_1552 rfl rfl (Nat.le_of_ble_eq_true rfl) (congrArg _ ci_7) (fun _ => rfl) hh (fun x198 hh => ?_)
    refine J_goto (pc := 1555) 18 dL_law_1555 (by decide) ?_
    obtain rfl := Option.some.inj hh
    exact hk
  · replace hh := (if_neg c199).symm.trans hh
    refine J_iconst (pc := 958) dL_law_958 ci_0 ?_
    obtain rfl := Option.some.inj hh
    obtain ⟨rfl, rfl⟩ := hk
    exact J_ret (w := some (.int (0 : Int32))) ⟨dL_law_959, _, rfl, rfl⟩
def gL_law_960 (X : Scr) (s : Mem) (v3 : Int32) : Option (((Int32 × Mem) ⊕ Mem) ⊕ (Int32 × Mem)) :=
  gd (v3 + (1 : Int32)) X.1 ((fX6_most s (X.2 (v3 + (1 : Int32)).toNatClampNeg)).bind (fun y202 => gd (v3 + (1 : Int32)) X.1 ((fX7_most y202.2 (X.2 (v3 + (1 : Int32)).toNatClampNeg)).bind (fun y204 => if y202.1 = y204.1 then lt (v3 + (7 : Int32)) (fun x205 => some (Sum.inr (x205, y204.2))) else some (Sum.inl (Sum.inl (((0 : Int32), y204.2))))))))
set_option maxRecDepth 4000 in
theorem jgL_law_960 (d : Nat) (X : Scr) (s : Mem) (v3 : Int32) {r : (((Int32 × Mem) ⊕ Mem) ⊕ (Int32 × Mem))} {w : Option Value} {s' : Mem} (hh : gL_law_960 X s v3 = some r) (hk : Sum.elim (Sum.elim (fun q : (Int32 × Mem) => w = some (.int q.1) ∧ q.2 = s') (fun t : Mem => J X ML_law (d + 16) 1558 [none, none, none, none] [] t w s')) (fun a : (Int32 × Mem) => J X ML_law (d + 16) 18 [some (.ref 2002), some (.ref 0), some (.ref 19), some (.int a.1)] [] a.2 w s') r) : J X ML_law (d + 16) 960 [some (.ref 2002), some (.ref 0), some (.ref 19), some (.int v3)] [] s w s' := by
  unfold gL_law_960 at hh
  refine J_aload_n (pc := 960) dL_law_960 rfl ?_
  refine J_aload_n (pc := 961) dL_law_961 rfl ?_
  refine J_iload_n (pc := 962) dL_law_962 rfl ?_
  refine J_iconst (pc := 963) dL_law_963 ci_1 ?_
  refine J_iadd (pc := 964) dL_law_964 ?_
  obtain ⟨h201, hh⟩ := gd_some hh
  refine J_cald (pc := 965) (f := X.2) dL_law_965 rfl h201 ?_
  obtain ⟨y202, hy202, hh⟩ := bd_some hh
  refine J_callVi (pc := 966) (M' := MX6_most) (a := 0) (rest := []) (As := [.int (X.2 (v3 + (1 : Int32)).toNatClampNeg)]) (L0 := [some (.ref 0), some (.int (X.2 (v3 + (1 : Int32)).toNatClampNeg))]) okX6_most ovX6_most mlL_99 clX6 so0 rfl rfl (Nat.le_of_ble_eq_true rfl) dL_law_966 rfl (Nat.le_of_ble_eq_true rfl) (jX6_most (X := X) (d + 10) s (X.2 (v3 + (1 : Int32)).toNatClampNeg) hy202) ?_
  refine J_aload_n (pc := 969) dL_law_969 rfl ?_
  refine J_aload_n (pc := 970) dL_law_970 rfl ?_
  refine J_iload_n (pc := 971) dL_law_971 rfl ?_
  refine J_iconst (pc := 972) dL_law_972 ci_1 ?_
  refine J_iadd (pc := 973) dL_law_973 ?_
  obtain ⟨h203, hh⟩ := gd_some hh
  refine J_cald (pc := 974) (f := X.2) dL_law_974 rfl h203 ?_
  obtain ⟨y204, hy204, hh⟩ := bd_some hh
  refine J_callVi (pc := 975) (M' := MX7_most) (a := 19) (rest := [.int y202.1]) (As := [.int (X.2 (v3 + (1 : Int32)).toNatClampNeg)]) (L0 := [some (.ref 19), some (.int (X.2 (v3 + (1 : Int32)).toNatClampNeg))]) okX7_most ovX7_most mlL_102 clX7 so19 rfl rfl (Nat.le_of_ble_eq_true rfl) dL_law_975 rfl (Nat.le_of_ble_eq_true rfl) (jX7_most (X := X) (d + 1) y202.2 (X.2 (v3 + (1 : Int32)).toNatClampNeg) hy204) ?_
  refine J_icmp_eq (pc := 978) 1552 dL_law_978 (by decide) (fun c206 => ?_) (fun c206 => ?_)
  · replace hh := (if_pos c206).symm.trans hh
    refine J_iincL (pc := 1552) (v := v3 + (7 : Int32)) (fun x205 => [some (.ref 2002), some (.ref 0), some (.ref 19), some (.int x205)]) dL_law_1552 rfl rfl (Nat.le_of_ble_eq_true rfl) (congrArg _ ci_7) (fun _ => rfl) hh (fun x205 hh => ?_)
    refine J_goto (pc := 1555) 18 dL_law_1555 (by decide) ?_
    obtain rfl := Option.some.inj hh
    exact hk
  · replace hh := (if_neg c206).symm.trans hh
    refine J_iconst (pc := 981) dL_law_981 ci_0 ?_
    obtain rfl := Option.some.inj hh
    obtain ⟨rfl, rfl⟩ := hk
    exact J_ret (w := some (.int (0 : Int32))) ⟨dL_law_982, _, rfl, rfl⟩
def gL_law_983 (X : Scr) (s : Mem) (v3 : Int32) : Option (((Int32 × Mem) ⊕ Mem) ⊕ (Int32 × Mem)) :=
  gd (v3 + (1 : Int32)) X.1 ((fX6_seat s (X.2 (v3 + (1 : Int32)).toNatClampNeg)).bind (fun y209 => gd (v3 + (1 : Int32)) X.1 ((fX7_seat y209.2 (X.2 (v3 + (1 : Int32)).toNatClampNeg)).bind (fun y211 => if y209.1 = y211.1 then lt (v3 + (7 : Int32)) (fun x212 => some (Sum.inr (x212, y211.2))) else some (Sum.inl (Sum.inl (((0 : Int32), y211.2))))))))
set_option maxRecDepth 4000 in
theorem jgL_law_983 (d : Nat) (X : Scr) (s : Mem) (v3 : Int32) {r : (((Int32 × Mem) ⊕ Mem) ⊕ (Int32 × Mem))} {w : Option Value} {s' : Mem} (hh : gL_law_983 X s v3 = some r) (hk : Sum.elim (Sum.elim (fun q : (Int32 × Mem) => w = some (.int q.1) ∧ q.2 = s') (fun t : Mem => J X ML_law (d + 16) 1558 [none, none, none, none] [] t w s')) (fun a : (Int32 × Mem) => J X ML_law (d + 16) 18 [some (.ref 2002), some (.ref 0), some (.ref 19), some (.int a.1)] [] a.2 w s') r) : J X ML_law (d + 16) 983 [some (.ref 2002), some (.ref 0), some (.ref 19), some (.int v3)] [] s w s' := by
  unfold gL_law_983 at hh
  refine J_aload_n (pc := 983) dL_law_983 rfl ?_
  refine J_aload_n (pc := 984) dL_law_984 rfl ?_
  refine J_iload_n (pc := 985) dL_law_985 rfl ?_
  refine J_iconst (pc := 986) dL_law_986 ci_1 ?_
  refine J_iadd (pc := 987) dL_law_987 ?_
  obtain ⟨h208, hh⟩ := gd_some hh
  refine J_cald (pc := 988) (f := X.2) dL_law_988 rfl h208 ?_
  obtain ⟨y209, hy209, hh⟩ := bd_some hh
  refine J_callVi (pc := 989) (M' := MX6_seat) (a := 0) (rest := []) (As := [.int (X.2 (v3 + (1 : Int32)).toNatClampNeg)]) (L0 := [some (.ref 0), some (.int (X.2 (v3 + (1 : Int32)).toNatClampNeg))]) okX6_seat ovX6_seat mlL_103 clX6 so0 rfl rfl (Nat.le_of_ble_eq_true rfl) dL_law_989 rfl (Nat.le_of_ble_eq_true rfl) (jX6_seat (X := X) (d + 10) s (X.2 (v3 + (1 : Int32)).toNatClampNeg) hy209) ?_
  refine J_aload_n (pc := 992) dL_law_992 rfl ?_
  refine J_aload_n (pc := 993) dL_law_993 rfl ?_
  refine J_iload_n (pc := 994) dL_law_994 rfl ?_
  refine J_iconst (pc := 995) dL_law_995 ci_1 ?_
  refine J_iadd (pc := 996) dL_law_996 ?_
  obtain ⟨h210, hh⟩ := gd_some hh
  refine J_cald (pc := 997) (f := X.2) dL_law_997 rfl h210 ?_
  obtain ⟨y211, hy211, hh⟩ := bd_some hh
  refine J_callVi (pc := 998) (M' := MX7_seat) (a := 19) (rest := [.int y209.1]) (As := [.int (X.2 (v3 + (1 : Int32)).toNatClampNeg)]) (L0 := [some (.ref 19), some (.int (X.2 (v3 + (1 : Int32)).toNatClampNeg))]) okX7_seat ovX7_seat mlL_106 clX7 so19 rfl rfl (Nat.le_of_ble_eq_true rfl) dL_law_998 rfl (Nat.le_of_ble_eq_true rfl) (jX7_seat (X := X) (d + 1) y209.2 (X.2 (v3 + (1 : Int32)).toNatClampNeg) hy211) ?_
  refine J_icmp_eq (pc := 1001) 1552 dL_law_1001 (by decide) (fun c213 => ?_) (fun c213 => ?_)
  · replace hh := (if_pos c213).symm.trans hh
    refine J_iincL (pc := 1552) (v := v3 + (7 : Int32)) (fun x212 => [some (.ref 2002), some (.ref 0), some (.ref 19), some (.int x212)]) dL_law_1552 rfl rfl (Nat.le_of_ble_eq_true rfl) (congrArg _ ci_7) (fun _ => rfl) hh (fun x212 hh => ?_)
    refine J_goto (pc := 1555) 18 dL_law_1555 (by decide) ?_
    obtain rfl := Option.some.inj hh
    exact hk
  · replace hh := (if_neg c213).symm.trans hh
    refine J_iconst (pc := 1004) dL_law_1004 ci_0 ?_
    obtain rfl := Option.some.inj hh
    obtain ⟨rfl, rfl⟩ := hk
    exact J_ret (w := some (.int (0 : Int32))) ⟨dL_law_1005, _, rfl, rfl⟩
def gL_law_1006 (X : Scr) (s : Mem) (v3 : Int32) : Option (((Int32 × Mem) ⊕ Mem) ⊕ (Int32 × Mem)) :=
  gd (v3 + (1 : Int32)) X.1 ((fX6_evens s (X.2 (v3 + (1 : Int32)).toNatClampNeg)).bind (fun y216 => gd (v3 + (1 : Int32)) X.1 ((fX7_evens y216.2 (X.2 (v3 + (1 : Int32)).toNatClampNeg)).bind (fun y218 => if y216.1 = y218.1 then lt (v3 + (7 : Int32)) (fun x219 => some (Sum.inr (x219, y218.2))) else some (Sum.inl (Sum.inl (((0 : Int32), y218.2))))))))
set_option maxRecDepth 4000 in
theorem jgL_law_1006 (d : Nat) (X : Scr) (s : Mem) (v3 : Int32) {r : (((Int32 × Mem) ⊕ Mem) ⊕ (Int32 × Mem))} {w : Option Value} {s' : Mem} (hh : gL_law_1006 X s v3 = some r) (hk : Sum.elim (Sum.elim (fun q : (Int32 × Mem) => w = some (.int q.1) ∧ q.2 = s') (fun t : Mem => J X ML_law (d + 16) 1558 [none, none, none, none] [] t w s')) (fun a : (Int32 × Mem) => J X ML_law (d + 16) 18 [some (.ref 2002), some (.ref 0), some (.ref 19), some (.int a.1)] [] a.2 w s') r) : J X ML_law (d + 16) 1006 [some (.ref 2002), some (.ref 0), some (.ref 19), some (.int v3)] [] s w s' := by
  unfold gL_law_1006 at hh
  refine J_aload_n (pc := 1006) dL_law_1006 rfl ?_
  refine J_aload_n (pc := 1007) dL_law_1007 rfl ?_
  refine J_iload_n (pc := 1008) dL_law_1008 rfl ?_
  refine J_iconst (pc := 1009) dL_law_1009 ci_1 ?_
  refine J_iadd (pc := 1010) dL_law_1010 ?_
  obtain ⟨h215, hh⟩ := gd_some hh
  refine J_cald (pc := 1011) (f := X.2) dL_law_1011 rfl h215 ?_
  obtain ⟨y216, hy216, hh⟩ := bd_some hh
  refine J_callVi (pc := 1012) (M' := MX6_evens) (a := 0) (rest := []) (As := [.int (X.2 (v3 + (1 : Int32)).toNatClampNeg)]) (L0 := [some (.ref 0), some (.int (X.2 (v3 + (1 : Int32)).toNatClampNeg))]) okX6_evens ovX6_evens mlL_107 clX6 so0 rfl rfl (Nat.le_of_ble_eq_true rfl) dL_law_1012 rfl (Nat.le_of_ble_eq_true rfl) (jX6_evens (X := X) (d + 10) s (X.2 (v3 + (1 : Int32)).toNatClampNeg) hy216) ?_
  refine J_aload_n (pc := 1015) dL_law_1015 rfl ?_
  refine J_aload_n (pc := 1016) dL_law_1016 rfl ?_
  refine J_iload_n (pc := 1017) dL_law_1017 rfl ?_
  refine J_iconst (pc := 1018) dL_law_1018 ci_1 ?_
  refine J_iadd (pc := 1019) dL_law_1019 ?_
  obtain ⟨h217, hh⟩ := gd_some hh
  refine J_cald (pc := 1020) (f := X.2) dL_law_1020 rfl h217 ?_
  obtain ⟨y218, hy218, hh⟩ := bd_some hh
  refine J_callVi (pc := 1021) (M' := MX7_evens) (a := 19) (rest := [.int y216.1]) (As := [.int (X.2 (v3 + (1 : Int32)).toNatClampNeg)]) (L0 := [some (.ref 19), some (.int (X.2 (v3 + (1 : Int32)).toNatClampNeg))]) okX7_evens ovX7_evens mlL_110 clX7 so19 rfl rfl (Nat.le_of_ble_eq_true rfl) dL_law_1021 rfl (Nat.le_of_ble_eq_true rfl) (jX7_evens (X := X) (d + 1) y216.2 (X.2 (v3 + (1 : Int32)).toNatClampNeg) hy218) ?_
  refine J_icmp_eq (pc := 1024) 1552 dL_law_1024 (by decide) (fun c220 => ?_) (fun c220 => ?_)
  · replace hh := (if_pos c220).symm.trans hh
    refine J_iincL (pc := 1552) (v := v3 + (7 : Int32)) (fun x219 => [some (.ref 2002), some (.ref 0), some (.ref 19), some (.int x219)]) dL_law_1552 rfl rfl (Nat.le_of_ble_eq_true rfl) (congrArg _ ci_7) (fun _ => rfl) hh (fun x219 hh => ?_)
    refine J_goto (pc := 1555) 18 dL_law_1555 (by decide) ?_
    obtain rfl := Option.some.inj hh
    exact hk
  · replace hh := (if_neg c220).symm.trans hh
    refine J_iconst (pc := 1027) dL_law_1027 ci_0 ?_
    obtain rfl := Option.some.inj hh
    obtain ⟨rfl, rfl⟩ := hk
    exact J_ret (w := some (.int (0 : Int32))) ⟨dL_law_1028, _, rfl, rfl⟩
def gL_law_1029 (X : Scr) (s : Mem) (v3 : Int32) : Option (((Int32 × Mem) ⊕ Mem) ⊕ (Int32 × Mem)) :=
  gd (v3 + (1 : Int32)) X.1 (gd (v3 + (2 : Int32)) X.1 ((fX6_chain s (X.2 (v3 + (1 : Int32)).toNatClampNeg) (X.2 (v3 + (2 : Int32)).toNatClampNeg)).bind (fun y224 => gd (v3 + (1 : Int32)) X.1 (gd (v3 + (2 : Int32)) X.1 ((fX7_chain y224.2 (X.2 (v3 + (1 : Int32)).toNatClampNeg) (X.2 (v3 + (2 : Int32)).toNatClampNeg)).bind (fun y227 => if y224.1 = y227.1 then lt (v3 + (7 : Int32)) (fun x228 => some (Sum.inr (x228, y227.2))) else some (Sum.inl (Sum.inl (((0 : Int32), y227.2))))))))))
set_option maxRecDepth 4000 in
theorem jgL_law_1029 (d : Nat) (X : Scr) (s : Mem) (v3 : Int32) {r : (((Int32 × Mem) ⊕ Mem) ⊕ (Int32 × Mem))} {w : Option Value} {s' : Mem} (hh : gL_law_1029 X s v3 = some r) (hk : Sum.elim (Sum.elim (fun q : (Int32 × Mem) => w = some (.int q.1) ∧ q.2 = s') (fun t : Mem => J X ML_law (d + 16) 1558 [none, none, none, none] [] t w s')) (fun a : (Int32 × Mem) => J X ML_law (d + 16) 18 [some (.ref 2002), some (.ref 0), some (.ref 19), some (.int a.1)] [] a.2 w s') r) : J X ML_law (d + 16) 1029 [some (.ref 2002), some (.ref 0), some (.ref 19), some (.int v3)] [] s w s' := by
  unfold gL_law_1029 at hh
  refine J_aload_n (pc := 1029) dL_law_1029 rfl ?_
  refine J_aload_n (pc := 1030) dL_law_1030 rfl ?_
  refine J_iload_n (pc := 1031) dL_law_1031 rfl ?_
  refine J_iconst (pc := 1032) dL_law_1032 ci_1 ?_
  refine J_iadd (pc := 1033) dL_law_1033 ?_
  obtain ⟨h222, hh⟩ := gd_some hh
  refine J_cald (pc := 1034) (f := X.2) dL_law_1034 rfl h222 ?_
  refine J_aload_n (pc := 1035) dL_law_1035 rfl ?_
  refine J_iload_n (pc := 1036) dL_law_1036 rfl ?_
  refine J_iconst (pc := 1037) dL_law_1037 ci_2 ?_
  refine J_iadd (pc := 1038) dL_law_1038 ?_
  obtain ⟨h223, hh⟩ := gd_some hh
  refine J_cald (pc := 1039) (f := X.2) dL_law_1039 rfl h223 ?_
  obtain ⟨y224, hy224, hh⟩ := bd_some hh
  refine J_callVi (pc := 1040) (M' := MX6_chain) (a := 0) (rest := []) (As := [.int (X.2 (v3 + (1 : Int32)).toNatClampNeg), .int (X.2 (v3 + (2 : Int32)).toNatClampNeg)]) (L0 := [some (.ref 0), some (.int (X.2 (v3 + (1 : Int32)).toNatClampNeg)), some (.int (X.2 (v3 + (2 : Int32)).toNatClampNeg)), none]) okX6_chain ovX6_chain mlL_111 clX6 so0 rfl rfl (Nat.le_of_ble_eq_true rfl) dL_law_1040 rfl (Nat.le_of_ble_eq_true rfl) (jX6_chain (X := X) (d + 9) s (X.2 (v3 + (1 : Int32)).toNatClampNeg) (X.2 (v3 + (2 : Int32)).toNatClampNeg) hy224) ?_
  refine J_aload_n (pc := 1043) dL_law_1043 rfl ?_
  refine J_aload_n (pc := 1044) dL_law_1044 rfl ?_
  refine J_iload_n (pc := 1045) dL_law_1045 rfl ?_
  refine J_iconst (pc := 1046) dL_law_1046 ci_1 ?_
  refine J_iadd (pc := 1047) dL_law_1047 ?_
  obtain ⟨h225, hh⟩ := gd_some hh
  refine J_cald (pc := 1048) (f := X.2) dL_law_1048 rfl h225 ?_
  refine J_aload_n (pc := 1049) dL_law_1049 rfl ?_
  refine J_iload_n (pc := 1050) dL_law_1050 rfl ?_
  refine J_iconst (pc := 1051) dL_law_1051 ci_2 ?_
  refine J_iadd (pc := 1052) dL_law_1052 ?_
  obtain ⟨h226, hh⟩ := gd_some hh
  refine J_cald (pc := 1053) (f := X.2) dL_law_1053 rfl h226 ?_
  obtain ⟨y227, hy227, hh⟩ := bd_some hh
  refine J_callVi (pc := 1054) (M' := MX7_chain) (a := 19) (rest := [.int y224.1]) (As := [.int (X.2 (v3 + (1 : Int32)).toNatClampNeg), .int (X.2 (v3 + (2 : Int32)).toNatClampNeg)]) (L0 := [some (.ref 19), some (.int (X.2 (v3 + (1 : Int32)).toNatClampNeg)), some (.int (X.2 (v3 + (2 : Int32)).toNatClampNeg)), none]) okX7_chain ovX7_chain mlL_114 clX7 so19 rfl rfl (Nat.le_of_ble_eq_true rfl) dL_law_1054 rfl (Nat.le_of_ble_eq_true rfl) (jX7_chain (X := X) d y224.2 (X.2 (v3 + (1 : Int32)).toNatClampNeg) (X.2 (v3 + (2 : Int32)).toNatClampNeg) hy227) ?_
  refine J_icmp_eq (pc := 1057) 1552 dL_law_1057 (by decide) (fun c229 => ?_) (fun c229 => ?_)
  · replace hh := (if_pos c229).symm.trans hh
    refine J_iincL (pc := 1552) (v := v3 + (7 : Int32)) (fun x228 => [some (.ref 2002), some (.ref 0), some (.ref 19), some (.int x228)]) dL_law_1552 rfl rfl (Nat.le_of_ble_eq_true rfl) (congrArg _ ci_7) (fun _ => rfl) hh (fun x228 hh => ?_)
    refine J_goto (pc := 1555) 18 dL_law_1555 (by decide) ?_
    obtain rfl := Option.some.inj hh
    exact hk
  · replace hh := (if_neg c229).symm.trans hh
    refine J_iconst (pc := 1060) dL_law_1060 ci_0 ?_
    obtain rfl := Option.some.inj hh
    obtain ⟨rfl, rfl⟩ := hk
    exact J_ret (w := some (.int (0 : Int32))) ⟨dL_law_1061, _, rfl, rfl⟩
def gL_law_1062 (X : Scr) (s : Mem) (v3 : Int32) : Option (((Int32 × Mem) ⊕ Mem) ⊕ (Int32 × Mem)) :=
  gd (v3 + (1 : Int32)) X.1 (gd (v3 + (2 : Int32)) X.1 ((fX6_lets s (X.2 (v3 + (1 : Int32)).toNatClampNeg) (X.2 (v3 + (2 : Int32)).toNatClampNeg)).bind (fun y233 => gd (v3 + (1 : Int32)) X.1 (gd (v3 + (2 : Int32)) X.1 ((fX7_lets y233.2 (X.2 (v3 + (1 : Int32)).toNatClampNeg) (X.2 (v3 + (2 : Int32)).toNatClampNeg)).bind (fun y236 => if y233.1 = y236.1 then lt (v3 + (7 : Int32)) (fun x237 => some (Sum.inr (x237, y236.2))) else some (Sum.inl (Sum.inl (((0 : Int32), y236.2))))))))))
set_option maxRecDepth 4000 in
theorem jgL_law_1062 (d : Nat) (X : Scr) (s : Mem) (v3 : Int32) {r : (((Int32 × Mem) ⊕ Mem) ⊕ (Int32 × Mem))} {w : Option Value} {s' : Mem} (hh : gL_law_1062 X s v3 = some r) (hk : Sum.elim (Sum.elim (fun q : (Int32 × Mem) => w = some (.int q.1) ∧ q.2 = s') (fun t : Mem => J X ML_law (d + 16) 1558 [none, none, none, none] [] t w s')) (fun a : (Int32 × Mem) => J X ML_law (d + 16) 18 [some (.ref 2002), some (.ref 0), some (.ref 19), some (.int a.1)] [] a.2 w s') r) : J X ML_law (d + 16) 1062 [some (.ref 2002), some (.ref 0), some (.ref 19), some (.int v3)] [] s w s' := by
  unfold gL_law_1062 at hh
  refine J_aload_n (pc := 1062) dL_law_1062 rfl ?_
  refine J_aload_n (pc := 1063) dL_law_1063 rfl ?_
  refine J_iload_n (pc := 1064) dL_law_1064 rfl ?_
  refine J_iconst (pc := 1065) dL_law_1065 ci_1 ?_
  refine J_iadd (pc := 1066) dL_law_1066 ?_
  obtain ⟨h231, hh⟩ := gd_some hh
  refine J_cald (pc := 1067) (f := X.2) dL_law_1067 rfl h231 ?_
  refine J_aload_n (pc := 1068) dL_law_1068 rfl ?_
  refine J_iload_n (pc := 1069) dL_law_1069 rfl ?_
  refine J_iconst (pc := 1070) dL_law_1070 ci_2 ?_
  refine J_iadd (pc := 1071) dL_law_1071 ?_
  obtain ⟨h232, hh⟩ := gd_some hh
  refine J_cald (pc := 1072) (f := X.2) dL_law_1072 rfl h232 ?_
  obtain ⟨y233, hy233, hh⟩ := bd_some hh
  refine J_callVi (pc := 1073) (M' := MX6_lets) (a := 0) (rest := []) (As := [.int (X.2 (v3 + (1 : Int32)).toNatClampNeg), .int (X.2 (v3 + (2 : Int32)).toNatClampNeg)]) (L0 := [some (.ref 0), some (.int (X.2 (v3 + (1 : Int32)).toNatClampNeg)), some (.int (X.2 (v3 + (2 : Int32)).toNatClampNeg)), none]) okX6_lets ovX6_lets mlL_115 clX6 so0 rfl rfl (Nat.le_of_ble_eq_true rfl) dL_law_1073 rfl (Nat.le_of_ble_eq_true rfl) (jX6_lets (X := X) (d + 9) s (X.2 (v3 + (1 : Int32)).toNatClampNeg) (X.2 (v3 + (2 : Int32)).toNatClampNeg) hy233) ?_
  refine J_aload_n (pc := 1076) dL_law_1076 rfl ?_
  refine J_aload_n (pc := 1077) dL_law_1077 rfl ?_
  refine J_iload_n (pc := 1078) dL_law_1078 rfl ?_
  refine J_iconst (pc := 1079) dL_law_1079 ci_1 ?_
  refine J_iadd (pc := 1080) dL_law_1080 ?_
  obtain ⟨h234, hh⟩ := gd_some hh
  refine J_cald (pc := 1081) (f := X.2) dL_law_1081 rfl h234 ?_
  refine J_aload_n (pc := 1082) dL_law_1082 rfl ?_
  refine J_iload_n (pc := 1083) dL_law_1083 rfl ?_
  refine J_iconst (pc := 1084) dL_law_1084 ci_2 ?_
  refine J_iadd (pc := 1085) dL_law_1085 ?_
  obtain ⟨h235, hh⟩ := gd_some hh
  refine J_cald (pc := 1086) (f := X.2) dL_law_1086 rfl h235 ?_
  obtain ⟨y236, hy236, hh⟩ := bd_some hh
  refine J_callVi (pc := 1087) (M' := MX7_lets) (a := 19) (rest := [.int y233.1]) (As := [.int (X.2 (v3 + (1 : Int32)).toNatClampNeg), .int (X.2 (v3 + (2 : Int32)).toNatClampNeg)]) (L0 := [some (.ref 19), some (.int (X.2 (v3 + (1 : Int32)).toNatClampNeg)), some (.int (X.2 (v3 + (2 : Int32)).toNatClampNeg)), none]) okX7_lets ovX7_lets mlL_118 clX7 so19 rfl rfl (Nat.le_of_ble_eq_true rfl) dL_law_1087 rfl (Nat.le_of_ble_eq_true rfl) (jX7_lets (X := X) d y233.2 (X.2 (v3 + (1 : Int32)).toNatClampNeg) (X.2 (v3 + (2 : Int32)).toNatClampNeg) hy236) ?_
  refine J_icmp_eq (pc := 1090) 1552 dL_law_1090 (by decide) (fun c238 => ?_) (fun c238 => ?_)
  · replace hh := (if_pos c238).symm.trans hh
    refine J_iincL (pc := 1552) (v := v3 + (7 : Int32)) (fun x237 => [some (.ref 2002), some (.ref 0), some (.ref 19), some (.int x237)]) dL_law_1552 rfl rfl (Nat.le_of_ble_eq_true rfl) (congrArg _ ci_7) (fun _ => rfl) hh (fun x237 hh => ?_)
    refine J_goto (pc := 1555) 18 dL_law_1555 (by decide) ?_
    obtain rfl := Option.some.inj hh
    exact hk
  · replace hh := (if_neg c238).symm.trans hh
    refine J_iconst (pc := 1093) dL_law_1093 ci_0 ?_
    obtain rfl := Option.some.inj hh
    obtain ⟨rfl, rfl⟩ := hk
    exact J_ret (w := some (.int (0 : Int32))) ⟨dL_law_1094, _, rfl, rfl⟩
def gL_law_1095 (X : Scr) (s : Mem) (v3 : Int32) : Option (((Int32 × Mem) ⊕ Mem) ⊕ (Int32 × Mem)) :=
  gd (v3 + (1 : Int32)) X.1 ((fX6_ways s (X.2 (v3 + (1 : Int32)).toNatClampNeg)).bind (fun y241 => gd (v3 + (1 : Int32)) X.1 ((fX7_ways y241.2 (X.2 (v3 + (1 : Int32)).toNatClampNeg)).bind (fun y243 => if (lg_cmp y241.1 y243.1) = (0 : Int32) then lt (v3 + (7 : Int32)) (fun x244 => some (Sum.inr (x244, y243.2))) else some (Sum.inl (Sum.inl (((0 : Int32), y243.2))))))))
set_option maxRecDepth 4000 in
theorem jgL_law_1095 (d : Nat) (X : Scr) (s : Mem) (v3 : Int32) {r : (((Int32 × Mem) ⊕ Mem) ⊕ (Int32 × Mem))} {w : Option Value} {s' : Mem} (hh : gL_law_1095 X s v3 = some r) (hk : Sum.elim (Sum.elim (fun q : (Int32 × Mem) => w = some (.int q.1) ∧ q.2 = s') (fun t : Mem => J X ML_law (d + 16) 1558 [none, none, none, none] [] t w s')) (fun a : (Int32 × Mem) => J X ML_law (d + 16) 18 [some (.ref 2002), some (.ref 0), some (.ref 19), some (.int a.1)] [] a.2 w s') r) : J X ML_law (d + 16) 1095 [some (.ref 2002), some (.ref 0), some (.ref 19), some (.int v3)] [] s w s' := by
  unfold gL_law_1095 at hh
  refine J_aload_n (pc := 1095) dL_law_1095 rfl ?_
  refine J_aload_n (pc := 1096) dL_law_1096 rfl ?_
  refine J_iload_n (pc := 1097) dL_law_1097 rfl ?_
  refine J_iconst (pc := 1098) dL_law_1098 ci_1 ?_
  refine J_iadd (pc := 1099) dL_law_1099 ?_
  obtain ⟨h240, hh⟩ := gd_some hh
  refine J_cald (pc := 1100) (f := X.2) dL_law_1100 rfl h240 ?_
  obtain ⟨y241, hy241, hh⟩ := bd_some hh
  refine J_callVi (pc := 1101) (M' := MX6_ways) (a := 0) (rest := []) (As := [.int (X.2 (v3 + (1 : Int32)).toNatClampNeg)]) (L0 := [some (.ref 0), some (.int (X.2 (v3 + (1 : Int32)).toNatClampNeg))]) okX6_ways ovX6_ways mlL_119 clX6 so0 rfl rfl (Nat.le_of_ble_eq_true rfl) dL_law_1101 rfl (Nat.le_of_ble_eq_true rfl) (jX6_ways (X := X) (d + 10) s (X.2 (v3 + (1 : Int32)).toNatClampNeg) hy241) ?_
  refine J_aload_n (pc := 1104) dL_law_1104 rfl ?_
  refine J_aload_n (pc := 1105) dL_law_1105 rfl ?_
  refine J_iload_n (pc := 1106) dL_law_1106 rfl ?_
  refine J_iconst (pc := 1107) dL_law_1107 ci_1 ?_
  refine J_iadd (pc := 1108) dL_law_1108 ?_
  obtain ⟨h242, hh⟩ := gd_some hh
  refine J_cald (pc := 1109) (f := X.2) dL_law_1109 rfl h242 ?_
  obtain ⟨y243, hy243, hh⟩ := bd_some hh
  refine J_callVi (pc := 1110) (M' := MX7_ways) (a := 19) (rest := [.long y241.1]) (As := [.int (X.2 (v3 + (1 : Int32)).toNatClampNeg)]) (L0 := [some (.ref 19), some (.int (X.2 (v3 + (1 : Int32)).toNatClampNeg))]) okX7_ways ovX7_ways mlL_123 clX7 so19 rfl rfl (Nat.le_of_ble_eq_true rfl) dL_law_1110 rfl (Nat.le_of_ble_eq_true rfl) (jX7_ways (X := X) (d + 1) y241.2 (X.2 (v3 + (1 : Int32)).toNatClampNeg) hy243) ?_
  refine J_lcmp (pc := 1113) dL_law_1113 ?_
  refine J_if_eq (pc := 1114) 1552 dL_law_1114 (by decide) (fun c245 => ?_) (fun c245 => ?_)
  · replace hh := (if_pos c245).symm.trans hh
    refine J_iincL (pc := 1552) (v := v3 + (7 : Int32)) (fun x244 => [some (.ref 2002), some (.ref 0), some (.ref 19), some (.int x244)]) dL_law_1552 rfl rfl (Nat.le_of_ble_eq_true rfl) (congrArg _ ci_7) (fun _ => rfl) hh (fun x244 hh => ?_)
    refine J_goto (pc := 1555) 18 dL_law_1555 (by decide) ?_
    obtain rfl := Option.some.inj hh
    exact hk
  · replace hh := (if_neg c245).symm.trans hh
    refine J_iconst (pc := 1117) dL_law_1117 ci_0 ?_
    obtain rfl := Option.some.inj hh
    obtain ⟨rfl, rfl⟩ := hk
    exact J_ret (w := some (.int (0 : Int32))) ⟨dL_law_1118, _, rfl, rfl⟩
def gL_law_1119 (X : Scr) (s : Mem) (v3 : Int32) : Option (((Int32 × Mem) ⊕ Mem) ⊕ (Int32 × Mem)) :=
  gd (v3 + (1 : Int32)) X.1 ((fX6_orders s (X.2 (v3 + (1 : Int32)).toNatClampNeg)).bind (fun y248 => gd (v3 + (1 : Int32)) X.1 ((fX7_orders y248.2 (X.2 (v3 + (1 : Int32)).toNatClampNeg)).bind (fun y250 => if y248.1 = y250.1 then lt (v3 + (7 : Int32)) (fun x251 => some (Sum.inr (x251, y250.2))) else some (Sum.inl (Sum.inl (((0 : Int32), y250.2))))))))
set_option maxRecDepth 4000 in
theorem jgL_law_1119 (d : Nat) (X : Scr) (s : Mem) (v3 : Int32) {r : (((Int32 × Mem) ⊕ Mem) ⊕ (Int32 × Mem))} {w : Option Value} {s' : Mem} (hh : gL_law_1119 X s v3 = some r) (hk : Sum.elim (Sum.elim (fun q : (Int32 × Mem) => w = some (.int q.1) ∧ q.2 = s') (fun t : Mem => J X ML_law (d + 16) 1558 [none, none, none, none] [] t w s')) (fun a : (Int32 × Mem) => J X ML_law (d + 16) 18 [some (.ref 2002), some (.ref 0), some (.ref 19), some (.int a.1)] [] a.2 w s') r) : J X ML_law (d + 16) 1119 [some (.ref 2002), some (.ref 0), some (.ref 19), some (.int v3)] [] s w s' := by
  unfold gL_law_1119 at hh
  refine J_aload_n (pc := 1119) dL_law_1119 rfl ?_
  refine J_aload_n (pc := 1120) dL_law_1120 rfl ?_
  refine J_iload_n (pc := 1121) dL_law_1121 rfl ?_
  refine J_iconst (pc := 1122) dL_law_1122 ci_1 ?_
  refine J_iadd (pc := 1123) dL_law_1123 ?_
  obtain ⟨h247, hh⟩ := gd_some hh
  refine J_cald (pc := 1124) (f := X.2) dL_law_1124 rfl h247 ?_
  obtain ⟨y248, hy248, hh⟩ := bd_some hh
  refine J_callVi (pc := 1125) (M' := MX6_orders) (a := 0) (rest := []) (As := [.int (X.2 (v3 + (1 : Int32)).toNatClampNeg)]) (L0 := [some (.ref 0), some (.int (X.2 (v3 + (1 : Int32)).toNatClampNeg)), none, none]) okX6_orders ovX6_orders mlL_124 clX6 so0 rfl rfl (Nat.le_of_ble_eq_true rfl) dL_law_1125 rfl (Nat.le_of_ble_eq_true rfl) (jX6_orders (X := X) (d + 9) s (X.2 (v3 + (1 : Int32)).toNatClampNeg) hy248) ?_
  refine J_aload_n (pc := 1128) dL_law_1128 rfl ?_
  refine J_aload_n (pc := 1129) dL_law_1129 rfl ?_
  refine J_iload_n (pc := 1130) dL_law_1130 rfl ?_
  refine J_iconst (pc := 1131) dL_law_1131 ci_1 ?_
  refine J_iadd (pc := 1132) dL_law_1132 ?_
  obtain ⟨h249, hh⟩ := gd_some hh
  refine J_cald (pc := 1133) (f := X.2) dL_law_1133 rfl h249 ?_
  obtain ⟨y250, hy250, hh⟩ := bd_some hh
  refine J_callVi (pc := 1134) (M' := MX7_orders) (a := 19) (rest := [.int y248.1]) (As := [.int (X.2 (v3 + (1 : Int32)).toNatClampNeg)]) (L0 := [some (.ref 19), some (.int (X.2 (v3 + (1 : Int32)).toNatClampNeg)), none, none, none, none, none, none, none, none]) okX7_orders ovX7_orders mlL_127 clX7 so19 rfl rfl (Nat.le_of_ble_eq_true rfl) dL_law_1134 rfl (Nat.le_of_ble_eq_true rfl) (jX7_orders (X := X) (d + 4) y248.2 (X.2 (v3 + (1 : Int32)).toNatClampNeg) hy250) ?_
  refine J_icmp_eq (pc := 1137) 1552 dL_law_1137 (by decide) (fun c252 => ?_) (fun c252 => ?_)
  · replace hh := (if_pos c252).symm.trans hh
    refine J_iincL (pc := 1552) (v := v3 + (7 : Int32)) (fun x251 => [some (.ref 2002), some (.ref 0), some (.ref 19), some (.int x251)]) dL_law_1552 rfl rfl (Nat.le_of_ble_eq_true rfl) (congrArg _ ci_7) (fun _ => rfl) hh (fun x251 hh => ?_)
    refine J_goto (pc := 1555) 18 dL_law_1555 (by decide) ?_
    obtain rfl := Option.some.inj hh
    exact hk
  · replace hh := (if_neg c252).symm.trans hh
    refine J_iconst (pc := 1140) dL_law_1140 ci_0 ?_
    obtain rfl := Option.some.inj hh
    obtain ⟨rfl, rfl⟩ := hk
    exact J_ret (w := some (.int (0 : Int32))) ⟨dL_law_1141, _, rfl, rfl⟩
def gL_law_1142 (X : Scr) (s : Mem) (v3 : Int32) : Option (((Int32 × Mem) ⊕ Mem) ⊕ (Int32 × Mem)) :=
  gd (v3 + (1 : Int32)) X.1 ((fX6_loose s (X.2 (v3 + (1 : Int32)).toNatClampNeg)).bind (fun y255 => gd (v3 + (1 : Int32)) X.1 ((fX7_loose y255.2 (X.2 (v3 + (1 : Int32)).toNatClampNeg)).bind (fun y257 => if y255.1 = y257.1 then lt (v3 + (7 : Int32)) (fun x258 => some (Sum.inr (x258, y257.2))) else some (Sum.inl (Sum.inl (((0 : Int32), y257.2))))))))
set_option maxRecDepth 4000 in
theorem jgL_law_1142 (d : Nat) (X : Scr) (s : Mem) (v3 : Int32) {r : (((Int32 × Mem) ⊕ Mem) ⊕ (Int32 × Mem))} {w : Option Value} {s' : Mem} (hh : gL_law_1142 X s v3 = some r) (hk : Sum.elim (Sum.elim (fun q : (Int32 × Mem) => w = some (.int q.1) ∧ q.2 = s') (fun t : Mem => J X ML_law (d + 16) 1558 [none, none, none, none] [] t w s')) (fun a : (Int32 × Mem) => J X ML_law (d + 16) 18 [some (.ref 2002), some (.ref 0), some (.ref 19), some (.int a.1)] [] a.2 w s') r) : J X ML_law (d + 16) 1142 [some (.ref 2002), some (.ref 0), some (.ref 19), some (.int v3)] [] s w s' := by
  unfold gL_law_1142 at hh
  refine J_aload_n (pc := 1142) dL_law_1142 rfl ?_
  refine J_aload_n (pc := 1143) dL_law_1143 rfl ?_
  refine J_iload_n (pc := 1144) dL_law_1144 rfl ?_
  refine J_iconst (pc := 1145) dL_law_1145 ci_1 ?_
  refine J_iadd (pc := 1146) dL_law_1146 ?_
  obtain ⟨h254, hh⟩ := gd_some hh
  refine J_cald (pc := 1147) (f := X.2) dL_law_1147 rfl h254 ?_
  obtain ⟨y255, hy255, hh⟩ := bd_some hh
  refine J_callVi (pc := 1148) (M' := MX6_loose) (a := 0) (rest := []) (As := [.int (X.2 (v3 + (1 : Int32)).toNatClampNeg)]) (L0 := [some (.ref 0), some (.int (X.2 (v3 + (1 : Int32)).toNatClampNeg)), none, none, none, none, none]) okX6_loose ovX6_loose mlL_128 clX6 so0 rfl rfl (Nat.le_of_ble_eq_true rfl) dL_law_1148 rfl (Nat.le_of_ble_eq_true rfl) (jX6_loose (X := X) (d + 9) s (X.2 (v3 + (1 : Int32)).toNatClampNeg) hy255) ?_
  refine J_aload_n (pc := 1151) dL_law_1151 rfl ?_
  refine J_aload_n (pc := 1152) dL_law_1152 rfl ?_
  refine J_iload_n (pc := 1153) dL_law_1153 rfl ?_
  refine J_iconst (pc := 1154) dL_law_1154 ci_1 ?_
  refine J_iadd (pc := 1155) dL_law_1155 ?_
  obtain ⟨h256, hh⟩ := gd_some hh
  refine J_cald (pc := 1156) (f := X.2) dL_law_1156 rfl h256 ?_
  obtain ⟨y257, hy257, hh⟩ := bd_some hh
  refine J_callVi (pc := 1157) (M' := MX7_loose) (a := 19) (rest := [.int y255.1]) (As := [.int (X.2 (v3 + (1 : Int32)).toNatClampNeg)]) (L0 := [some (.ref 19), some (.int (X.2 (v3 + (1 : Int32)).toNatClampNeg)), none, none, none, none, none]) okX7_loose ovX7_loose mlL_131 clX7 so19 rfl rfl (Nat.le_of_ble_eq_true rfl) dL_law_1157 rfl (Nat.le_of_ble_eq_true rfl) (jX7_loose (X := X) (d + 4) y255.2 (X.2 (v3 + (1 : Int32)).toNatClampNeg) hy257) ?_
  refine J_icmp_eq (pc := 1160) 1552 dL_law_1160 (by decide) (fun c259 => ?_) (fun c259 => ?_)
  · replace hh := (if_pos c259).symm.trans hh
    refine J_iincL (pc := 1552) (v := v3 + (7 : Int32)) (fun x258 => [some (.ref 2002), some (.ref 0), some (.ref 19), some (.int x258)]) dL_law_1552 rfl rfl (Nat.le_of_ble_eq_true rfl) (congrArg _ ci_7) (fun _ => rfl) hh (fun x258 hh => ?_)
    refine J_goto (pc := 1555) 18 dL_law_1555 (by decide) ?_
    obtain rfl := Option.some.inj hh
    exact hk
  · replace hh := (if_neg c259).symm.trans hh
    refine J_iconst (pc := 1163) dL_law_1163 ci_0 ?_
    obtain rfl := Option.some.inj hh
    obtain ⟨rfl, rfl⟩ := hk
    exact J_ret (w := some (.int (0 : Int32))) ⟨dL_law_1164, _, rfl, rfl⟩
def gL_law_1165 (X : Scr) (s : Mem) (v3 : Int32) : Option (((Int32 × Mem) ⊕ Mem) ⊕ (Int32 × Mem)) :=
  gd (v3 + (1 : Int32)) X.1 ((fX6_seed s (X.2 (v3 + (1 : Int32)).toNatClampNeg)).bind (fun y262 => gd (v3 + (1 : Int32)) X.1 ((fX7_seed y262.2 (X.2 (v3 + (1 : Int32)).toNatClampNeg)).bind (fun y264 => if y262.1 = y264.1 then lt (v3 + (7 : Int32)) (fun x265 => some (Sum.inr (x265, y264.2))) else some (Sum.inl (Sum.inl (((0 : Int32), y264.2))))))))
set_option maxRecDepth 4000 in
theorem jgL_law_1165 (d : Nat) (X : Scr) (s : Mem) (v3 : Int32) {r : (((Int32 × Mem) ⊕ Mem) ⊕ (Int32 × Mem))} {w : Option Value} {s' : Mem} (hh : gL_law_1165 X s v3 = some r) (hk : Sum.elim (Sum.elim (fun q : (Int32 × Mem) => w = some (.int q.1) ∧ q.2 = s') (fun t : Mem => J X ML_law (d + 16) 1558 [none, none, none, none] [] t w s')) (fun a : (Int32 × Mem) => J X ML_law (d + 16) 18 [some (.ref 2002), some (.ref 0), some (.ref 19), some (.int a.1)] [] a.2 w s') r) : J X ML_law (d + 16) 1165 [some (.ref 2002), some (.ref 0), some (.ref 19), some (.int v3)] [] s w s' := by
  unfold gL_law_1165 at hh
  refine J_aload_n (pc := 1165) dL_law_1165 rfl ?_
  refine J_aload_n (pc := 1166) dL_law_1166 rfl ?_
  refine J_iload_n (pc := 1167) dL_law_1167 rfl ?_
  refine J_iconst (pc := 1168) dL_law_1168 ci_1 ?_
  refine J_iadd (pc := 1169) dL_law_1169 ?_
  obtain ⟨h261, hh⟩ := gd_some hh
  refine J_cald (pc := 1170) (f := X.2) dL_law_1170 rfl h261 ?_
  obtain ⟨y262, hy262, hh⟩ := bd_some hh
  refine J_callVi (pc := 1171) (M' := MX6_seed) (a := 0) (rest := []) (As := [.int (X.2 (v3 + (1 : Int32)).toNatClampNeg)]) (L0 := [some (.ref 0), some (.int (X.2 (v3 + (1 : Int32)).toNatClampNeg)), none]) okX6_seed ovX6_seed mlL_132 clX6 so0 rfl rfl (Nat.le_of_ble_eq_true rfl) dL_law_1171 rfl (Nat.le_of_ble_eq_true rfl) (jX6_seed (X := X) (d + 15) s (X.2 (v3 + (1 : Int32)).toNatClampNeg) hy262) ?_
  refine J_aload_n (pc := 1174) dL_law_1174 rfl ?_
  refine J_aload_n (pc := 1175) dL_law_1175 rfl ?_
  refine J_iload_n (pc := 1176) dL_law_1176 rfl ?_
  refine J_iconst (pc := 1177) dL_law_1177 ci_1 ?_
  refine J_iadd (pc := 1178) dL_law_1178 ?_
  obtain ⟨h263, hh⟩ := gd_some hh
  refine J_cald (pc := 1179) (f := X.2) dL_law_1179 rfl h263 ?_
  obtain ⟨y264, hy264, hh⟩ := bd_some hh
  refine J_callVi (pc := 1180) (M' := MX7_seed) (a := 19) (rest := [.int y262.1]) (As := [.int (X.2 (v3 + (1 : Int32)).toNatClampNeg)]) (L0 := [some (.ref 19), some (.int (X.2 (v3 + (1 : Int32)).toNatClampNeg)), none]) okX7_seed ovX7_seed mlL_135 clX7 so19 rfl rfl (Nat.le_of_ble_eq_true rfl) dL_law_1180 rfl (Nat.le_of_ble_eq_true rfl) (jX7_seed (X := X) (d + 15) y262.2 (X.2 (v3 + (1 : Int32)).toNatClampNeg) hy264) ?_
  refine J_icmp_eq (pc := 1183) 1552 dL_law_1183 (by decide) (fun c266 => ?_) (fun c266 => ?_)
  · replace hh := (if_pos c266).symm.trans hh
    refine J_iincL (pc := 1552) (v := v3 + (7 : Int32)) (fun x265 => [some (.ref 2002), some (.ref 0), some (.ref 19), some (.int x265)]) dL_law_1552 rfl rfl (Nat.le_of_ble_eq_true rfl) (congrArg _ ci_7) (fun _ => rfl) hh (fun x265 hh => ?_)
    refine J_goto (pc := 1555) 18 dL_law_1555 (by decide) ?_
    obtain rfl := Option.some.inj hh
    exact hk
  · replace hh := (if_neg c266).symm.trans hh
    refine J_iconst (pc := 1186) dL_law_1186 ci_0 ?_
    obtain rfl := Option.some.inj hh
    obtain ⟨rfl, rfl⟩ := hk
    exact J_ret (w := some (.int (0 : Int32))) ⟨dL_law_1187, _, rfl, rfl⟩
def gL_law_1188 (X : Scr) (s : Mem) (v3 : Int32) : Option (((Int32 × Mem) ⊕ Mem) ⊕ (Int32 × Mem)) :=
  gd (v3 + (1 : Int32)) X.1 (gd (v3 + (2 : Int32)) X.1 ((fX6_feed s (X.2 (v3 + (1 : Int32)).toNatClampNeg) (X.2 (v3 + (2 : Int32)).toNatClampNeg)).bind (fun y270 => gd (v3 + (1 : Int32)) X.1 (gd (v3 + (2 : Int32)) X.1 ((fX7_feed y270.2 (X.2 (v3 + (1 : Int32)).toNatClampNeg) (X.2 (v3 + (2 : Int32)).toNatClampNeg)).bind (fun y273 => if y270.1 = y273.1 then lt (v3 + (7 : Int32)) (fun x274 => some (Sum.inr (x274, y273.2))) else some (Sum.inl (Sum.inl (((0 : Int32), y273.2))))))))))
set_option maxRecDepth 4000 in
theorem jgL_law_1188 (d : Nat) (X : Scr) (s : Mem) (v3 : Int32) {r : (((Int32 × Mem) ⊕ Mem) ⊕ (Int32 × Mem))} {w : Option Value} {s' : Mem} (hh : gL_law_1188 X s v3 = some r) (hk : Sum.elim (Sum.elim (fun q : (Int32 × Mem) => w = some (.int q.1) ∧ q.2 = s') (fun t : Mem => J X ML_law (d + 16) 1558 [none, none, none, none] [] t w s')) (fun a : (Int32 × Mem) => J X ML_law (d + 16) 18 [some (.ref 2002), some (.ref 0), some (.ref 19), some (.int a.1)] [] a.2 w s') r) : J X ML_law (d + 16) 1188 [some (.ref 2002), some (.ref 0), some (.ref 19), some (.int v3)] [] s w s' := by
  unfold gL_law_1188 at hh
  refine J_aload_n (pc := 1188) dL_law_1188 rfl ?_
  refine J_aload_n (pc := 1189) dL_law_1189 rfl ?_
  refine J_iload_n (pc := 1190) dL_law_1190 rfl ?_
  refine J_iconst (pc := 1191) dL_law_1191 ci_1 ?_
  refine J_iadd (pc := 1192) dL_law_1192 ?_
  obtain ⟨h268, hh⟩ := gd_some hh
  refine J_cald (pc := 1193) (f := X.2) dL_law_1193 rfl h268 ?_
  refine J_aload_n (pc := 1194) dL_law_1194 rfl ?_
  refine J_iload_n (pc := 1195) dL_law_1195 rfl ?_
  refine J_iconst (pc := 1196) dL_law_1196 ci_2 ?_
  refine J_iadd (pc := 1197) dL_law_1197 ?_
  obtain ⟨h269, hh⟩ := gd_some hh
  refine J_cald (pc := 1198) (f := X.2) dL_law_1198 rfl h269 ?_
  obtain ⟨y270, hy270, hh⟩ := bd_some hh
  refine J_callVi (pc := 1199) (M' := MX6_feed) (a := 0) (rest := []) (As := [.int (X.2 (v3 + (1 : Int32)).toNatClampNeg), .int (X.2 (v3 + (2 : Int32)).toNatClampNeg)]) (L0 := [some (.ref 0), some (.int (X.2 (v3 + (1 : Int32)).toNatClampNeg)), some (.int (X.2 (v3 + (2 : Int32)).toNatClampNeg))]) okX6_feed ovX6_feed mlL_136 clX6 so0 rfl rfl (Nat.le_of_ble_eq_true rfl) dL_law_1199 rfl (Nat.le_of_ble_eq_true rfl) (jX6_feed (X := X) (d + 13) s (X.2 (v3 + (1 : Int32)).toNatClampNeg) (X.2 (v3 + (2 : Int32)).toNatClampNeg) hy270) ?_
  refine J_aload_n (pc := 1202) dL_law_1202 rfl ?_
  refine J_aload_n (pc := 1203) dL_law_1203 rfl ?_
  refine J_iload_n (pc := 1204) dL_law_1204 rfl ?_
  refine J_iconst (pc := 1205) dL_law_1205 ci_1 ?_
  refine J_iadd (pc := 1206) dL_law_1206 ?_
  obtain ⟨h271, hh⟩ := gd_some hh
  refine J_cald (pc := 1207) (f := X.2) dL_law_1207 rfl h271 ?_
  refine J_aload_n (pc := 1208) dL_law_1208 rfl ?_
  refine J_iload_n (pc := 1209) dL_law_1209 rfl ?_
  refine J_iconst (pc := 1210) dL_law_1210 ci_2 ?_
  refine J_iadd (pc := 1211) dL_law_1211 ?_
  obtain ⟨h272, hh⟩ := gd_some hh
  refine J_cald (pc := 1212) (f := X.2) dL_law_1212 rfl h272 ?_
  obtain ⟨y273, hy273, hh⟩ := bd_some hh
  refine J_callVi (pc := 1213) (M' := MX7_feed) (a := 19) (rest := [.int y270.1]) (As := [.int (X.2 (v3 + (1 : Int32)).toNatClampNeg), .int (X.2 (v3 + (2 : Int32)).toNatClampNeg)]) (L0 := [some (.ref 19), some (.int (X.2 (v3 + (1 : Int32)).toNatClampNeg)), some (.int (X.2 (v3 + (2 : Int32)).toNatClampNeg)), none]) okX7_feed ovX7_feed mlL_139 clX7 so19 rfl rfl (Nat.le_of_ble_eq_true rfl) dL_law_1213 rfl (Nat.le_of_ble_eq_true rfl) (jX7_feed (X := X) (d + 14) y270.2 (X.2 (v3 + (1 : Int32)).toNatClampNeg) (X.2 (v3 + (2 : Int32)).toNatClampNeg) hy273) ?_
  refine J_icmp_eq (pc := 1216) 1552 dL_law_1216 (by decide) (fun c275 => ?_) (fun c275 => ?_)
  · replace hh := (if_pos c275).symm.trans hh
    refine J_iincL (pc := 1552) (v := v3 + (7 : Int32)) (fun x274 => [some (.ref 2002), some (.ref 0), some (.ref 19), some (.int x274)]) dL_law_1552 rfl rfl (Nat.le_of_ble_eq_true rfl) (congrArg _ ci_7) (fun _ => rfl) hh (fun x274 hh => ?_)
    refine J_goto (pc := 1555) 18 dL_law_1555 (by decide) ?_
    obtain rfl := Option.some.inj hh
    exact hk
  · replace hh := (if_neg c275).symm.trans hh
    refine J_iconst (pc := 1219) dL_law_1219 ci_0 ?_
    obtain rfl := Option.some.inj hh
    obtain ⟨rfl, rfl⟩ := hk
    exact J_ret (w := some (.int (0 : Int32))) ⟨dL_law_1220, _, rfl, rfl⟩
def gL_law_1221 (X : Scr) (s : Mem) (v3 : Int32) : Option (((Int32 × Mem) ⊕ Mem) ⊕ (Int32 × Mem)) :=
  (fX6_wipe s).bind (fun y277 => (fX7_wipe y277.2).bind (fun y278 => if y277.1 = y278.1 then lt (v3 + (7 : Int32)) (fun x279 => some (Sum.inr (x279, y278.2))) else some (Sum.inl (Sum.inl (((0 : Int32), y278.2))))))
set_option maxRecDepth 4000 in
theorem jgL_law_1221 (d : Nat) (X : Scr) (s : Mem) (v3 : Int32) {r : (((Int32 × Mem) ⊕ Mem) ⊕ (Int32 × Mem))} {w : Option Value} {s' : Mem} (hh : gL_law_1221 X s v3 = some r) (hk : Sum.elim (Sum.elim (fun q : (Int32 × Mem) => w = some (.int q.1) ∧ q.2 = s') (fun t : Mem => J X ML_law (d + 16) 1558 [none, none, none, none] [] t w s')) (fun a : (Int32 × Mem) => J X ML_law (d + 16) 18 [some (.ref 2002), some (.ref 0), some (.ref 19), some (.int a.1)] [] a.2 w s') r) : J X ML_law (d + 16) 1221 [some (.ref 2002), some (.ref 0), some (.ref 19), some (.int v3)] [] s w s' := by
  unfold gL_law_1221 at hh
  refine J_aload_n (pc := 1221) dL_law_1221 rfl ?_
  obtain ⟨y277, hy277, hh⟩ := bd_some hh
  refine J_callVi (pc := 1222) (M' := MX6_wipe) (a := 0) (rest := []) (As := []) (L0 := [some (.ref 0)]) okX6_wipe ovX6_wipe mlL_140 clX6 so0 rfl rfl (Nat.le_of_ble_eq_true rfl) dL_law_1222 rfl (Nat.le_of_ble_eq_true rfl) (jX6_wipe (X := X) (d + 14) s hy277) ?_
  refine J_aload_n (pc := 1225) dL_law_1225 rfl ?_
  obtain ⟨y278, hy278, hh⟩ := bd_some hh
  refine J_callVi (pc := 1226) (M' := MX7_wipe) (a := 19) (rest := [.int y277.1]) (As := []) (L0 := [some (.ref 19), none]) okX7_wipe ovX7_wipe mlL_143 clX7 so19 rfl rfl (Nat.le_of_ble_eq_true rfl) dL_law_1226 rfl (Nat.le_of_ble_eq_true rfl) (jX7_wipe (X := X) (d + 15) y277.2 hy278) ?_
  refine J_icmp_eq (pc := 1229) 1552 dL_law_1229 (by decide) (fun c280 => ?_) (fun c280 => ?_)
  · replace hh := (if_pos c280).symm.trans hh
    refine J_iincL (pc := 1552) (v := v3 + (7 : Int32)) (fun x279 => [some (.ref 2002), some (.ref 0), some (.ref 19), some (.int x279)]) dL_law_1552 rfl rfl (Nat.le_of_ble_eq_true rfl) (congrArg _ ci_7) (fun _ => rfl) hh (fun x279 hh => ?_)
    refine J_goto (pc := 1555) 18 dL_law_1555 (by decide) ?_
    obtain rfl := Option.some.inj hh
    exact hk
  · replace hh := (if_neg c280).symm.trans hh
    refine J_iconst (pc := 1232) dL_law_1232 ci_0 ?_
    obtain rfl := Option.some.inj hh
    obtain ⟨rfl, rfl⟩ := hk
    exact J_ret (w := some (.int (0 : Int32))) ⟨dL_law_1233, _, rfl, rfl⟩
def gL_law_1234 (X : Scr) (s : Mem) (v3 : Int32) : Option (((Int32 × Mem) ⊕ Mem) ⊕ (Int32 × Mem)) :=
  (fX6_text s).bind (fun y282 => (fX7_text y282.2).bind (fun y283 => if y282.1 = y283.1 then lt (v3 + (7 : Int32)) (fun x284 => some (Sum.inr (x284, y283.2))) else some (Sum.inl (Sum.inl (((0 : Int32), y283.2))))))
set_option maxRecDepth 4000 in
theorem jgL_law_1234 (d : Nat) (X : Scr) (s : Mem) (v3 : Int32) {r : (((Int32 × Mem) ⊕ Mem) ⊕ (Int32 × Mem))} {w : Option Value} {s' : Mem} (hh : gL_law_1234 X s v3 = some r) (hk : Sum.elim (Sum.elim (fun q : (Int32 × Mem) => w = some (.int q.1) ∧ q.2 = s') (fun t : Mem => J X ML_law (d + 16) 1558 [none, none, none, none] [] t w s')) (fun a : (Int32 × Mem) => J X ML_law (d + 16) 18 [some (.ref 2002), some (.ref 0), some (.ref 19), some (.int a.1)] [] a.2 w s') r) : J X ML_law (d + 16) 1234 [some (.ref 2002), some (.ref 0), some (.ref 19), some (.int v3)] [] s w s' := by
  unfold gL_law_1234 at hh
  refine J_aload_n (pc := 1234) dL_law_1234 rfl ?_
  obtain ⟨y282, hy282, hh⟩ := bd_some hh
  refine J_callVi (pc := 1235) (M' := MX6_text) (a := 0) (rest := []) (As := []) (L0 := [some (.ref 0), none]) okX6_text ovX6_text mlL_144 clX6 so0 rfl rfl (Nat.le_of_ble_eq_true rfl) dL_law_1235 rfl (Nat.le_of_ble_eq_true rfl) (jX6_text (X := X) (d + 6) s hy282) ?_
  refine J_aload_n (pc := 1238) dL_law_1238 rfl ?_
  obtain ⟨y283, hy283, hh⟩ := bd_some hh
  refine J_callVi (pc := 1239) (M' := MX7_text) (a := 19) (rest := [.int y282.1]) (As := []) (L0 := [some (.ref 19), none]) okX7_text ovX7_text mlL_147 clX7 so19 rfl rfl (Nat.le_of_ble_eq_true rfl) dL_law_1239 rfl (Nat.le_of_ble_eq_true rfl) (jX7_text (X := X) (d + 4) y282.2 hy283) ?_
  refine J_icmp_eq (pc := 1242) 1552 dL_law_1242 (by decide) (fun c285 => ?_) (fun c285 => ?_)
  · replace hh := (if_pos c285).symm.trans hh
    refine J_iincL (pc := 1552) (v := v3 + (7 : Int32)) (fun x284 => [some (.ref 2002), some (.ref 0), some (.ref 19), some (.int x284)]) dL_law_1552 rfl rfl (Nat.le_of_ble_eq_true rfl) (congrArg _ ci_7) (fun _ => rfl) hh (fun x284 hh => ?_)
    refine J_goto (pc := 1555) 18 dL_law_1555 (by decide) ?_
    obtain rfl := Option.some.inj hh
    exact hk
  · replace hh := (if_neg c285).symm.trans hh
    refine J_iconst (pc := 1245) dL_law_1245 ci_0 ?_
    obtain rfl := Option.some.inj hh
    obtain ⟨rfl, rfl⟩ := hk
    exact J_ret (w := some (.int (0 : Int32))) ⟨dL_law_1246, _, rfl, rfl⟩
def gL_law_1247 (X : Scr) (s : Mem) (v3 : Int32) : Option (((Int32 × Mem) ⊕ Mem) ⊕ (Int32 × Mem)) :=
  gd (v3 + (1 : Int32)) X.1 (gd (v3 + (2 : Int32)) X.1 ((fX6_line s (X.2 (v3 + (1 : Int32)).toNatClampNeg) (X.2 (v3 + (2 : Int32)).toNatClampNeg)).bind (fun y289 => gd (v3 + (1 : Int32)) X.1 (gd (v3 + (2 : Int32)) X.1 ((fX7_line y289.2 (X.2 (v3 + (1 : Int32)).toNatClampNeg) (X.2 (v3 + (2 : Int32)).toNatClampNeg)).bind (fun y292 => if y289.1 = y292.1 then lt (v3 + (7 : Int32)) (fun x293 => some (Sum.inr (x293, y292.2))) else some (Sum.inl (Sum.inl (((0 : Int32), y292.2))))))))))
set_option maxRecDepth 4000 in
theorem jgL_law_1247 (d : Nat) (X : Scr) (s : Mem) (v3 : Int32) {r : (((Int32 × Mem) ⊕ Mem) ⊕ (Int32 × Mem))} {w : Option Value} {s' : Mem} (hh : gL_law_1247 X s v3 = some r) (hk : Sum.elim (Sum.elim (fun q : (Int32 × Mem) => w = some (.int q.1) ∧ q.2 = s') (fun t : Mem => J X ML_law (d + 16) 1558 [none, none, none, none] [] t w s')) (fun a : (Int32 × Mem) => J X ML_law (d + 16) 18 [some (.ref 2002), some (.ref 0), some (.ref 19), some (.int a.1)] [] a.2 w s') r) : J X ML_law (d + 16) 1247 [some (.ref 2002), some (.ref 0), some (.ref 19), some (.int v3)] [] s w s' := by
  unfold gL_law_1247 at hh
  refine J_aload_n (pc := 1247) dL_law_1247 rfl ?_
  refine J_aload_n (pc := 1248) dL_law_1248 rfl ?_
  refine J_iload_n (pc := 1249) dL_law_1249 rfl ?_
  refine J_iconst (pc := 1250) dL_law_1250 ci_1 ?_
  refine J_iadd (pc := 1251) dL_law_1251 ?_
  obtain ⟨h287, hh⟩ := gd_some hh
  refine J_cald (pc := 1252) (f := X.2) dL_law_1252 rfl h287 ?_
  refine J_aload_n (pc := 1253) dL_law_1253 rfl ?_
  refine J_iload_n (pc := 1254) dL_law_1254 rfl ?_
  refine J_iconst (pc := 1255) dL_law_1255 ci_2 ?_
  refine J_iadd (pc := 1256) dL_law_1256 ?_
  obtain ⟨h288, hh⟩ := gd_some hh
  refine J_cald (pc := 1257) (f := X.2) dL_law_1257 rfl h288 ?_
  obtain ⟨y289, hy289, hh⟩ := bd_some hh
  refine J_callVi (pc := 1258) (M' := MX6_line) (a := 0) (rest := []) (As := [.int (X.2 (v3 + (1 : Int32)).toNatClampNeg), .int (X.2 (v3 + (2 : Int32)).toNatClampNeg)]) (L0 := [some (.ref 0), some (.int (X.2 (v3 + (1 : Int32)).toNatClampNeg)), some (.int (X.2 (v3 + (2 : Int32)).toNatClampNeg)), none, none]) okX6_line ovX6_line mlL_148 clX6 so0 rfl rfl (Nat.le_of_ble_eq_true rfl) dL_law_1258 rfl (Nat.le_of_ble_eq_true rfl) (jX6_line (X := X) (d + 10) s (X.2 (v3 + (1 : Int32)).toNatClampNeg) (X.2 (v3 + (2 : Int32)).toNatClampNeg) hy289) ?_
  refine J_aload_n (pc := 1261) dL_law_1261 rfl ?_
  refine J_aload_n (pc := 1262) dL_law_1262 rfl ?_
  refine J_iload_n (pc := 1263) dL_law_1263 rfl ?_
  refine J_iconst (pc := 1264) dL_law_1264 ci_1 ?_
  refine J_iadd (pc := 1265) dL_law_1265 ?_
  obtain ⟨h290, hh⟩ := gd_some hh
  refine J_cald (pc := 1266) (f := X.2) dL_law_1266 rfl h290 ?_
  refine J_aload_n (pc := 1267) dL_law_1267 rfl ?_
  refine J_iload_n (pc := 1268) dL_law_1268 rfl ?_
  refine J_iconst (pc := 1269) dL_law_1269 ci_2 ?_
  refine J_iadd (pc := 1270) dL_law_1270 ?_
  obtain ⟨h291, hh⟩ := gd_some hh
  refine J_cald (pc := 1271) (f := X.2) dL_law_1271 rfl h291 ?_
  obtain ⟨y292, hy292, hh⟩ := bd_some hh
  refine J_callVi (pc := 1272) (M' := MX7_line) (a := 19) (rest := [.int y289.1]) (As := [.int (X.2 (v3 + (1 : Int32)).toNatClampNeg), .int (X.2 (v3 + (2 : Int32)).toNatClampNeg)]) (L0 := [some (.ref 19), some (.int (X.2 (v3 + (1 : Int32)).toNatClampNeg)), some (.int (X.2 (v3 + (2 : Int32)).toNatClampNeg))]) okX7_line ovX7_line mlL_151 clX7 so19 rfl rfl (Nat.le_of_ble_eq_true rfl) dL_law_1272 rfl (Nat.le_of_ble_eq_true rfl) (jX7_line (X := X) (d + 9) y289.2 (X.2 (v3 + (1 : Int32)).toNatClampNeg) (X.2 (v3 + (2 : Int32)).toNatClampNeg) hy292) ?_
  refine J_icmp_eq (pc := 1275) 1552 dL_law_1275 (by decide) (fun c294 => ?_) (fun c294 => ?_)
  · replace hh := (if_pos c294).symm.trans hh
    refine J_iincL (pc := 1552) (v := v3 + (7 : Int32)) (fun x293 => [some (.ref 2002), some (.ref 0), some (.ref 19), some (.int x293)]) dL_law_1552 rfl rfl (Nat.le_of_ble_eq_true rfl) (congrArg _ ci_7) (fun _ => rfl) hh (fun x293 hh => ?_)
    refine J_goto (pc := 1555) 18 dL_law_1555 (by decide) ?_
    obtain rfl := Option.some.inj hh
    exact hk
  · replace hh := (if_neg c294).symm.trans hh
    refine J_iconst (pc := 1278) dL_law_1278 ci_0 ?_
    obtain rfl := Option.some.inj hh
    obtain ⟨rfl, rfl⟩ := hk
    exact J_ret (w := some (.int (0 : Int32))) ⟨dL_law_1279, _, rfl, rfl⟩
def gL_law_1280 (X : Scr) (s : Mem) (v3 : Int32) : Option (((Int32 × Mem) ⊕ Mem) ⊕ (Int32 × Mem)) :=
  gd (v3 + (1 : Int32)) X.1 (gd (v3 + (2 : Int32)) X.1 (gd (v3 + (3 : Int32)) X.1 ((fX6_sheet s (X.2 (v3 + (1 : Int32)).toNatClampNeg) (X.2 (v3 + (2 : Int32)).toNatClampNeg) (X.2 (v3 + (3 : Int32)).toNatClampNeg)).bind (fun y299 => gd (v3 + (1 : Int32)) X.1 (gd (v3 + (2 : Int32)) X.1 (gd (v3 + (3 : Int32)) X.1 ((fX7_sheet y299.2 (X.2 (v3 + (1 : Int32)).toNatClampNeg) (X.2 (v3 + (2 : Int32)).toNatClampNeg) (X.2 (v3 + (3 : Int32)).toNatClampNeg)).bind (fun y303 => if y299.1 = y303.1 then lt (v3 + (7 : Int32)) (fun x304 => some (Sum.inr (x304, y303.2))) else some (Sum.inl (Sum.inl (((0 : Int32), y303.2))))))))))))
set_option maxRecDepth 4000 in
theorem jgL_law_1280 (d : Nat) (X : Scr) (s : Mem) (v3 : Int32) {r : (((Int32 × Mem) ⊕ Mem) ⊕ (Int32 × Mem))} {w : Option Value} {s' : Mem} (hh : gL_law_1280 X s v3 = some r) (hk : Sum.elim (Sum.elim (fun q : (Int32 × Mem) => w = some (.int q.1) ∧ q.2 = s') (fun t : Mem => J X ML_law (d + 16) 1558 [none, none, none, none] [] t w s')) (fun a : (Int32 × Mem) => J X ML_law (d + 16) 18 [some (.ref 2002), some (.ref 0), some (.ref 19), some (.int a.1)] [] a.2 w s') r) : J X ML_law (d + 16) 1280 [some (.ref 2002), some (.ref 0), some (.ref 19), some (.int v3)] [] s w s' := by
  unfold gL_law_1280 at hh
  refine J_aload_n (pc := 1280) dL_law_1280 rfl ?_
  refine J_aload_n (pc := 1281) dL_law_1281 rfl ?_
  refine J_iload_n (pc := 1282) dL_law_1282 rfl ?_
  refine J_iconst (pc := 1283) dL_law_1283 ci_1 ?_
  refine J_iadd (pc := 1284) dL_law_1284 ?_
  obtain ⟨h296, hh⟩ := gd_some hh
  refine J_cald (pc := 1285) (f := X.2) dL_law_1285 rfl h296 ?_
  refine J_aload_n (pc := 1286) dL_law_1286 rfl ?_
  refine J_iload_n (pc := 1287) dL_law_1287 rfl ?_
  refine J_iconst (pc := 1288) dL_law_1288 ci_2 ?_
  refine J_iadd (pc := 1289) dL_law_1289 ?_
  obtain ⟨h297, hh⟩ := gd_some hh
  refine J_cald (pc := 1290) (f := X.2) dL_law_1290 rfl h297 ?_
  refine J_aload_n (pc := 1291) dL_law_1291 rfl ?_
  refine J_iload_n (pc := 1292) dL_law_1292 rfl ?_
  refine J_iconst (pc := 1293) dL_law_1293 ci_3 ?_
  refine J_iadd (pc := 1294) dL_law_1294 ?_
  obtain ⟨h298, hh⟩ := gd_some hh
  refine J_cald (pc := 1295) (f := X.2) dL_law_1295 rfl h298 ?_
  obtain ⟨y299, hy299, hh⟩ := bd_some hh
  refine J_callVi (pc := 1296) (M' := MX6_sheet) (a := 0) (rest := []) (As := [.int (X.2 (v3 + (1 : Int32)).toNatClampNeg), .int (X.2 (v3 + (2 : Int32)).toNatClampNeg), .int (X.2 (v3 + (3 : Int32)).toNatClampNeg)]) (L0 := [some (.ref 0), some (.int (X.2 (v3 + (1 : Int32)).toNatClampNeg)), some (.int (X.2 (v3 + (2 : Int32)).toNatClampNeg)), some (.int (X.2 (v3 + (3 : Int32)).toNatClampNeg))]) okX6_sheet ovX6_sheet mlL_152 clX6 so0 rfl rfl (Nat.le_of_ble_eq_true rfl) dL_law_1296 rfl (Nat.le_of_ble_eq_true rfl) (jX6_sheet (X := X) (d + 13) s (X.2 (v3 + (1 : Int32)).toNatClampNeg) (X.2 (v3 + (2 : Int32)).toNatClampNeg) (X.2 (v3 + (3 : Int32)).toNatClampNeg) hy299) ?_
  refine J_aload_n (pc := 1299) dL_law_1299 rfl ?_
  refine J_aload_n (pc := 1300) dL_law_1300 rfl ?_
  refine J_iload_n (pc := 1301) dL_law_1301 rfl ?_
  refine J_iconst (pc := 1302) dL_law_1302 ci_1 ?_
  refine J_iadd (pc := 1303) dL_law_1303 ?_
  obtain ⟨h300, hh⟩ := gd_some hh
  refine J_cald (pc := 1304) (f := X.2) dL_law_1304 rfl h300 ?_
  refine J_aload_n (pc := 1305) dL_law_1305 rfl ?_
  refine J_iload_n (pc := 1306) dL_law_1306 rfl ?_
  refine J_iconst (pc := 1307) dL_law_1307 ci_2 ?_
  refine J_iadd (pc := 1308) dL_law_1308 ?_
  obtain ⟨h301, hh⟩ := gd_some hh
  refine J_cald (pc := 1309) (f := X.2) dL_law_1309 rfl h301 ?_
  refine J_aload_n (pc := 1310) dL_law_1310 rfl ?_
  refine J_iload_n (pc := 1311) dL_law_1311 rfl ?_
  refine J_iconst (pc := 1312) dL_law_1312 ci_3 ?_
  refine J_iadd (pc := 1313) dL_law_1313 ?_
  obtain ⟨h302, hh⟩ := gd_some hh
  refine J_cald (pc := 1314) (f := X.2) dL_law_1314 rfl h302 ?_
  obtain ⟨y303, hy303, hh⟩ := bd_some hh
  refine J_callVi (pc := 1315) (M' := MX7_sheet) (a := 19) (rest := [.int y299.1]) (As := [.int (X.2 (v3 + (1 : Int32)).toNatClampNeg), .int (X.2 (v3 + (2 : Int32)).toNatClampNeg), .int (X.2 (v3 + (3 : Int32)).toNatClampNeg)]) (L0 := [some (.ref 19), some (.int (X.2 (v3 + (1 : Int32)).toNatClampNeg)), some (.int (X.2 (v3 + (2 : Int32)).toNatClampNeg)), some (.int (X.2 (v3 + (3 : Int32)).toNatClampNeg)), none]) okX7_sheet ovX7_sheet mlL_155 clX7 so19 rfl rfl (Nat.le_of_ble_eq_true rfl) dL_law_1315 rfl (Nat.le_of_ble_eq_true rfl) (jX7_sheet (X := X) (d + 13) y299.2 (X.2 (v3 + (1 : Int32)).toNatClampNeg) (X.2 (v3 + (2 : Int32)).toNatClampNeg) (X.2 (v3 + (3 : Int32)).toNatClampNeg) hy303) ?_
  refine J_icmp_eq (pc := 1318) 1552 dL_law_1318 (by decide) (fun c305 => ?_) (fun c305 => ?_)
  · replace hh := (if_pos c305).symm.trans hh
    refine J_iincL (pc := 1552) (v := v3 + (7 : Int32)) (fun x304 => [some (.ref 2002), some (.ref 0), some (.ref 19), some (.int x304)]) dL_law_1552 rfl rfl (Nat.le_of_ble_eq_true rfl) (congrArg _ ci_7) (fun _ => rfl) hh (fun x304 hh => ?_)
    refine J_goto (pc := 1555) 18 dL_law_1555 (by decide) ?_
    obtain rfl := Option.some.inj hh
    exact hk
  · replace hh := (if_neg c305).symm.trans hh
    refine J_iconst (pc := 1321) dL_law_1321 ci_0 ?_
    obtain rfl := Option.some.inj hh
    obtain ⟨rfl, rfl⟩ := hk
    exact J_ret (w := some (.int (0 : Int32))) ⟨dL_law_1322, _, rfl, rfl⟩
def gL_law_1323 (X : Scr) (s : Mem) (v3 : Int32) : Option (((Int32 × Mem) ⊕ Mem) ⊕ (Int32 × Mem)) :=
  gd (v3 + (1 : Int32)) X.1 (gd (v3 + (2 : Int32)) X.1 (gd (v3 + (3 : Int32)) X.1 (gd (v3 + (4 : Int32)) X.1 ((fX6_write s (X.2 (v3 + (1 : Int32)).toNatClampNeg) (X.2 (v3 + (2 : Int32)).toNatClampNeg) ((((X.2 (v3 + (3 : Int32)).toNatClampNeg).toInt64) <<< ((32 : Int32).toInt64 &&& 63)) ||| (((X.2 (v3 + (4 : Int32)).toNatClampNeg).toInt64) &&& (4294967295 : Int64)))).bind (fun y311 => gd (v3 + (1 : Int32)) X.1 (gd (v3 + (2 : Int32)) X.1 (gd (v3 + (3 : Int32)) X.1 (gd (v3 + (4 : Int32)) X.1 ((fX7_write y311.2 (X.2 (v3 + (1 : Int32)).toNatClampNeg) (X.2 (v3 + (2 : Int32)).toNatClampNeg) ((((X.2 (v3 + (3 : Int32)).toNatClampNeg).toInt64) <<< ((32 : Int32).toInt64 &&& 63)) ||| (((X.2 (v3 + (4 : Int32)).toNatClampNeg).toInt64) &&& (4294967295 : Int64)))).bind (fun y316 => if y311.1 = y316.1 then lt (v3 + (7 : Int32)) (fun x317 => some (Sum.inr (x317, y316.2))) else some (Sum.inl (Sum.inl (((0 : Int32), y316.2))))))))))))))
set_option maxRecDepth 4000 in
theorem jgL_law_1323 (d : Nat) (X : Scr) (s : Mem) (v3 : Int32) {r : (((Int32 × Mem) ⊕ Mem) ⊕ (Int32 × Mem))} {w : Option Value} {s' : Mem} (hh : gL_law_1323 X s v3 = some r) (hk : Sum.elim (Sum.elim (fun q : (Int32 × Mem) => w = some (.int q.1) ∧ q.2 = s') (fun t : Mem => J X ML_law (d + 16) 1558 [none, none, none, none] [] t w s')) (fun a : (Int32 × Mem) => J X ML_law (d + 16) 18 [some (.ref 2002), some (.ref 0), some (.ref 19), some (.int a.1)] [] a.2 w s') r) : J X ML_law (d + 16) 1323 [some (.ref 2002), some (.ref 0), some (.ref 19), some (.int v3)] [] s w s' := by
  unfold gL_law_1323 at hh
  refine J_aload_n (pc := 1323) dL_law_1323 rfl ?_
  refine J_aload_n (pc := 1324) dL_law_1324 rfl ?_
  refine J_iload_n (pc := 1325) dL_law_1325 rfl ?_
  refine J_iconst (pc := 1326) dL_law_1326 ci_1 ?_
  refine J_iadd (pc := 1327) dL_law_1327 ?_
  obtain ⟨h307, hh⟩ := gd_some hh
  refine J_cald (pc := 1328) (f := X.2) dL_law_1328 rfl h307 ?_
  refine J_aload_n (pc := 1329) dL_law_1329 rfl ?_
  refine J_iload_n (pc := 1330) dL_law_1330 rfl ?_
  refine J_iconst (pc := 1331) dL_law_1331 ci_2 ?_
  refine J_iadd (pc := 1332) dL_law_1332 ?_
  obtain ⟨h308, hh⟩ := gd_some hh
  refine J_cald (pc := 1333) (f := X.2) dL_law_1333 rfl h308 ?_
  refine J_aload_n (pc := 1334) dL_law_1334 rfl ?_
  refine J_iload_n (pc := 1335) dL_law_1335 rfl ?_
  refine J_iconst (pc := 1336) dL_law_1336 ci_3 ?_
  refine J_iadd (pc := 1337) dL_law_1337 ?_
  obtain ⟨h309, hh⟩ := gd_some hh
  refine J_cald (pc := 1338) (f := X.2) dL_law_1338 rfl h309 ?_
  refine J_i2l (pc := 1339) dL_law_1339 ?_
  refine J_bipush (pc := 1340) dL_law_1340 cb_32 ?_
  refine J_lshl (pc := 1342) dL_law_1342 ?_
  refine J_aload_n (pc := 1343) dL_law_1343 rfl ?_
  refine J_iload_n (pc := 1344) dL_law_1344 rfl ?_
  refine J_iconst (pc := 1345) dL_law_1345 ci_4 ?_
  refine J_iadd (pc := 1346) dL_law_1346 ?_
  obtain ⟨h310, hh⟩ := gd_some hh
  refine J_cald (pc := 1347) (f := X.2) dL_law_1347 rfl h310 ?_
  refine J_i2l (pc := 1348) dL_law_1348 ?_
  refine J_ldc2 (pc := 1349) klL_156 dL_law_1349 ?_
  refine J_land (pc := 1352) dL_law_1352 ?_
  refine J_lor (pc := 1353) dL_law_1353 ?_
  obtain ⟨y311, hy311, hh⟩ := bd_some hh
  refine J_callVi (pc := 1354) (M' := MX6_write) (a := 0) (rest := []) (As := [.int (X.2 (v3 + (1 : Int32)).toNatClampNeg), .int (X.2 (v3 + (2 : Int32)).toNatClampNeg), .long ((((X.2 (v3 + (3 : Int32)).toNatClampNeg).toInt64) <<< ((32 : Int32).toInt64 &&& 63)) ||| (((X.2 (v3 + (4 : Int32)).toNatClampNeg).toInt64) &&& (4294967295 : Int64)))]) (L0 := [some (.ref 0), some (.int (X.2 (v3 + (1 : Int32)).toNatClampNeg)), some (.int (X.2 (v3 + (2 : Int32)).toNatClampNeg)), some (.long ((((X.2 (v3 + (3 : Int32)).toNatClampNeg).toInt64) <<< ((32 : Int32).toInt64 &&& 63)) ||| (((X.2 (v3 + (4 : Int32)).toNatClampNeg).toInt64) &&& (4294967295 : Int64)))), none]) okX6_write ovX6_write mlL_158 clX6 so0 rfl rfl (Nat.le_of_ble_eq_true rfl) dL_law_1354 rfl (Nat.le_of_ble_eq_true rfl) (jX6_write (X := X) (d + 13) s (X.2 (v3 + (1 : Int32)).toNatClampNeg) (X.2 (v3 + (2 : Int32)).toNatClampNeg) ((((X.2 (v3 + (3 : Int32)).toNatClampNeg).toInt64) <<< ((32 : Int32).toInt64 &&& 63)) ||| (((X.2 (v3 + (4 : Int32)).toNatClampNeg).toInt64) &&& (4294967295 : Int64))) hy311) ?_
  refine J_aload_n (pc := 1357) dL_law_1357 rfl ?_
  refine J_aload_n (pc := 1358) dL_law_1358 rfl ?_
  refine J_iload_n (pc := 1359) dL_law_1359 rfl ?_
  refine J_iconst (pc := 1360) dL_law_1360 ci_1 ?_
  refine J_iadd (pc := 1361) dL_law_1361 ?_
  obtain ⟨h312, hh⟩ := gd_some hh
  refine J_cald (pc := 1362) (f := X.2) dL_law_1362 rfl h312 ?_
  refine J_aload_n (pc := 1363) dL_law_1363 rfl ?_
  refine J_iload_n (pc := 1364) dL_law_1364 rfl ?_
  refine J_iconst (pc := 1365) dL_law_1365 ci_2 ?_
  refine J_iadd (pc := 1366) dL_law_1366 ?_
  obtain ⟨h313, hh⟩ := gd_some hh
  refine J_cald (pc := 1367) (f := X.2) dL_law_1367 rfl h313 ?_
  refine J_aload_n (pc := 1368) dL_law_1368 rfl ?_
  refine J_iload_n (pc := 1369) dL_law_1369 rfl ?_
  refine J_iconst (pc := 1370) dL_law_1370 ci_3 ?_
  refine J_iadd (pc := 1371) dL_law_1371 ?_
  obtain ⟨h314, hh⟩ := gd_some hh
  refine J_cald (pc := 1372) (f := X.2) dL_law_1372 rfl h314 ?_
  refine J_i2l (pc := 1373) dL_law_1373 ?_
  refine J_bipush (pc := 1374) dL_law_1374 cb_32 ?_
  refine J_lshl (pc := 1376) dL_law_1376 ?_
  refine J_aload_n (pc := 1377) dL_law_1377 rfl ?_
  refine J_iload_n (pc := 1378) dL_law_1378 rfl ?_
  refine J_iconst (pc := 1379) dL_law_1379 ci_4 ?_
  refine J_iadd (pc := 1380) dL_law_1380 ?_
  obtain ⟨h315, hh⟩ := gd_some hh
  refine J_cald (pc := 1381) (f := X.2) dL_law_1381 rfl h315 ?_
  refine J_i2l (pc := 1382) dL_law_1382 ?_
  refine J_ldc2 (pc := 1383) klL_156 dL_law_1383 ?_
  refine J_land (pc := 1386) dL_law_1386 ?_
  refine J_lor (pc := 1387) dL_law_1387 ?_
  obtain ⟨y316, hy316, hh⟩ := bd_some hh
  refine J_callVi (pc := 1388) (M' := MX7_write) (a := 19) (rest := [.int y311.1]) (As := [.int (X.2 (v3 + (1 : Int32)).toNatClampNeg), .int (X.2 (v3 + (2 : Int32)).toNatClampNeg), .long ((((X.2 (v3 + (3 : Int32)).toNatClampNeg).toInt64) <<< ((32 : Int32).toInt64 &&& 63)) ||| (((X.2 (v3 + (4 : Int32)).toNatClampNeg).toInt64) &&& (4294967295 : Int64)))]) (L0 := [some (.ref 19), some (.int (X.2 (v3 + (1 : Int32)).toNatClampNeg)), some (.int (X.2 (v3 + (2 : Int32)).toNatClampNeg)), some (.long ((((X.2 (v3 + (3 : Int32)).toNatClampNeg).toInt64) <<< ((32 : Int32).toInt64 &&& 63)) ||| (((X.2 (v3 + (4 : Int32)).toNatClampNeg).toInt64) &&& (4294967295 : Int64)))), none, none]) okX7_write ovX7_write mlL_162 clX7 so19 rfl rfl (Nat.le_of_ble_eq_true rfl) dL_law_1388 rfl (Nat.le_of_ble_eq_true rfl) (jX7_write (X := X) (d + 12) y311.2 (X.2 (v3 + (1 : Int32)).toNatClampNeg) (X.2 (v3 + (2 : Int32)).toNatClampNeg) ((((X.2 (v3 + (3 : Int32)).toNatClampNeg).toInt64) <<< ((32 : Int32).toInt64 &&& 63)) ||| (((X.2 (v3 + (4 : Int32)).toNatClampNeg).toInt64) &&& (4294967295 : Int64))) hy316) ?_
  refine J_icmp_eq (pc := 1391) 1552 dL_law_1391 (by decide) (fun c318 => ?_) (fun c318 => ?_)
  · replace hh := (if_pos c318).symm.trans hh
    refine J_iincL (pc := 1552) (v := v3 + (7 : Int32)) (fun x317 => [some (.ref 2002), some (.ref 0), some (.ref 19), some (.int x317)]) dL_law_1552 rfl rfl (Nat.le_of_ble_eq_true rfl) (congrArg _ ci_7) (fun _ => rfl) hh (fun x317 hh => ?_)
    refine J_goto (pc := 1555) 18 dL_law_1555 (by decide) ?_
    obtain rfl := Option.some.inj hh
    exact hk
  · replace hh := (if_neg c318).symm.trans hh
    refine J_iconst (pc := 1394) dL_law_1394 ci_0 ?_
    obtain rfl := Option.some.inj hh
    obtain ⟨rfl, rfl⟩ := hk
    exact J_ret (w := some (.int (0 : Int32))) ⟨dL_law_1395, _, rfl, rfl⟩
def gL_law_1396 (X : Scr) (s : Mem) (v3 : Int32) : Option (((Int32 × Mem) ⊕ Mem) ⊕ (Int32 × Mem)) :=
  gd (v3 + (1 : Int32)) X.1 (gd (v3 + (2 : Int32)) X.1 ((fX6_item s (X.2 (v3 + (1 : Int32)).toNatClampNeg) (X.2 (v3 + (2 : Int32)).toNatClampNeg)).bind (fun y322 => gd (v3 + (1 : Int32)) X.1 (gd (v3 + (2 : Int32)) X.1 ((fX7_item_ y322.2 (X.2 (v3 + (1 : Int32)).toNatClampNeg) (X.2 (v3 + (2 : Int32)).toNatClampNeg)).bind (fun y325 => if (lg_cmp y322.1 y325.1) = (0 : Int32) then lt (v3 + (7 : Int32)) (fun x326 => some (Sum.inr (x326, y325.2))) else some (Sum.inl (Sum.inl (((0 : Int32), y325.2))))))))))
set_option maxRecDepth 4000 in
theorem jgL_law_1396 (d : Nat) (X : Scr) (s : Mem) (v3 : Int32) {r : (((Int32 × Mem) ⊕ Mem) ⊕ (Int32 × Mem))} {w : Option Value} {s' : Mem} (hh : gL_law_1396 X s v3 = some r) (hk : Sum.elim (Sum.elim (fun q : (Int32 × Mem) => w = some (.int q.1) ∧ q.2 = s') (fun t : Mem => J X ML_law (d + 16) 1558 [none, none, none, none] [] t w s')) (fun a : (Int32 × Mem) => J X ML_law (d + 16) 18 [some (.ref 2002), some (.ref 0), some (.ref 19), some (.int a.1)] [] a.2 w s') r) : J X ML_law (d + 16) 1396 [some (.ref 2002), some (.ref 0), some (.ref 19), some (.int v3)] [] s w s' := by
  unfold gL_law_1396 at hh
  refine J_aload_n (pc := 1396) dL_law_1396 rfl ?_
  refine J_aload_n (pc := 1397) dL_law_1397 rfl ?_
  refine J_iload_n (pc := 1398) dL_law_1398 rfl ?_
  refine J_iconst (pc := 1399) dL_law_1399 ci_1 ?_
  refine J_iadd (pc := 1400) dL_law_1400 ?_
  obtain ⟨h320, hh⟩ := gd_some hh
  refine J_cald (pc := 1401) (f := X.2) dL_law_1401 rfl h320 ?_
  refine J_aload_n (pc := 1402) dL_law_1402 rfl ?_
  refine J_iload_n (pc := 1403) dL_law_1403 rfl ?_
  refine J_iconst (pc := 1404) dL_law_1404 ci_2 ?_
  refine J_iadd (pc := 1405) dL_law_1405 ?_
  obtain ⟨h321, hh⟩ := gd_some hh
  refine J_cald (pc := 1406) (f := X.2) dL_law_1406 rfl h321 ?_
  obtain ⟨y322, hy322, hh⟩ := bd_some hh
  refine J_callVi (pc := 1407) (M' := MX6_item) (a := 0) (rest := []) (As := [.int (X.2 (v3 + (1 : Int32)).toNatClampNeg), .int (X.2 (v3 + (2 : Int32)).toNatClampNeg)]) (L0 := [some (.ref 0), some (.int (X.2 (v3 + (1 : Int32)).toNatClampNeg)), some (.int (X.2 (v3 + (2 : Int32)).toNatClampNeg))]) okX6_item ovX6_item mlL_163 clX6 so0 rfl rfl (Nat.le_of_ble_eq_true rfl) dL_law_1407 rfl (Nat.le_of_ble_eq_true rfl) (jX6_item (X := X) (d + 12) s (X.2 (v3 + (1 : Int32)).toNatClampNeg) (X.2 (v3 + (2 : Int32)).toNatClampNeg) hy322) ?_
  refine J_aload_n (pc := 1410) dL_law_1410 rfl ?_
  refine J_aload_n (pc := 1411) dL_law_1411 rfl ?_
  refine J_iload_n (pc := 1412) dL_law_1412 rfl ?_
  refine J_iconst (pc := 1413) dL_law_1413 ci_1 ?_
  refine J_iadd (pc := 1414) dL_law_1414 ?_
  obtain ⟨h323, hh⟩ := gd_some hh
  refine J_cald (pc := 1415) (f := X.2) dL_law_1415 rfl h323 ?_
  refine J_aload_n (pc := 1416) dL_law_1416 rfl ?_
  refine J_iload_n (pc := 1417) dL_law_1417 rfl ?_
  refine J_iconst (pc := 1418) dL_law_1418 ci_2 ?_
  refine J_iadd (pc := 1419) dL_law_1419 ?_
  obtain ⟨h324, hh⟩ := gd_some hh
  refine J_cald (pc := 1420) (f := X.2) dL_law_1420 rfl h324 ?_
  obtain ⟨y325, hy325, hh⟩ := bd_some hh
  refine J_callVi (pc := 1421) (M' := MX7_item_) (a := 19) (rest := [.long y322.1]) (As := [.int (X.2 (v3 + (1 : Int32)).toNatClampNeg), .int (X.2 (v3 + (2 : Int32)).toNatClampNeg)]) (L0 := [some (.ref 19), some (.int (X.2 (v3 + (1 : Int32)).toNatClampNeg)), some (.int (X.2 (v3 + (2 : Int32)).toNatClampNeg)), none]) okX7_item_ ovX7_item_ mlL_167 clX7 so19 rfl rfl (Nat.le_of_ble_eq_true rfl) dL_law_1421 rfl (Nat.le_of_ble_eq_true rfl) (jX7_item_ (X := X) (d + 12) y322.2 (X.2 (v3 + (1 : Int32)).toNatClampNeg) (X.2 (v3 + (2 : Int32)).toNatClampNeg) hy325) ?_
  refine J_lcmp (pc := 1424) dL_law_1424 ?_
  refine J_if_eq (pc := 1425) 1552 dL_law_1425 (by decide) (fun c327 => ?_) (fun c327 => ?_)
  · replace hh := (if_pos c327).symm.trans hh
    refine J_iincL (pc := 1552) (v := v3 + (7 : Int32)) (fun x326 => [some (.ref 2002), some (.ref 0), some (.ref 19), some (.int x326)]) dL_law_1552 rfl rfl (Nat.le_of_ble_eq_true rfl) (congrArg _ ci_7) (fun _ => rfl) hh (fun x326 hh => ?_)
    refine J_goto (pc := 1555) 18 dL_law_1555 (by decide) ?_
    obtain rfl := Option.some.inj hh
    exact hk
  · replace hh := (if_neg c327).symm.trans hh
    refine J_iconst (pc := 1428) dL_law_1428 ci_0 ?_
    obtain rfl := Option.some.inj hh
    obtain ⟨rfl, rfl⟩ := hk
    exact J_ret (w := some (.int (0 : Int32))) ⟨dL_law_1429, _, rfl, rfl⟩
def gL_law_1430 (X : Scr) (s : Mem) (v3 : Int32) : Option (((Int32 × Mem) ⊕ Mem) ⊕ (Int32 × Mem)) :=
  gd (v3 + (1 : Int32)) X.1 (gd (v3 + (2 : Int32)) X.1 (gd (v3 + (3 : Int32)) X.1 (gd (v3 + (4 : Int32)) X.1 (gd (v3 + (5 : Int32)) X.1 ((fX6_copy s (X.2 (v3 + (1 : Int32)).toNatClampNeg) (X.2 (v3 + (2 : Int32)).toNatClampNeg) (X.2 (v3 + (3 : Int32)).toNatClampNeg) (X.2 (v3 + (4 : Int32)).toNatClampNeg) (X.2 (v3 + (5 : Int32)).toNatClampNeg)).bind (fun y334 => gd (v3 + (1 : Int32)) X.1 (gd (v3 + (2 : Int32)) X.1 (gd (v3 + (3 : Int32)) X.1 (gd (v3 + (4 : Int32)) X.1 (gd (v3 + (5 : Int32)) X.1 ((fX7_copy y334.2 (X.2 (v3 + (1 : Int32)).toNatClampNeg) (X.2 (v3 + (2 : Int32)).toNatClampNeg) (X.2 (v3 + (3 : Int32)).toNatClampNeg) (X.2 (v3 + (4 : Int32)).toNatClampNeg) (X.2 (v3 + (5 : Int32)).toNatClampNeg)).bind (fun y340 => if y334.1 = y340.1 then lt (v3 + (7 : Int32)) (fun x341 => some (Sum.inr (x341, y340.2))) else some (Sum.inl (Sum.inl (((0 : Int32), y340.2))))))))))))))))
set_option maxRecDepth 4000 in
theorem jgL_law_1430 (d : Nat) (X : Scr) (s : Mem) (v3 : Int32) {r : (((Int32 × Mem) ⊕ Mem) ⊕ (Int32 × Mem))} {w : Option Value} {s' : Mem} (hh : gL_law_1430 X s v3 = some r) (hk : Sum.elim (Sum.elim (fun q : (Int32 × Mem) => w = some (.int q.1) ∧ q.2 = s') (fun t : Mem => J X ML_law (d + 16) 1558 [none, none, none, none] [] t w s')) (fun a : (Int32 × Mem) => J X ML_law (d + 16) 18 [some (.ref 2002), some (.ref 0), some (.ref 19), some (.int a.1)] [] a.2 w s') r) : J X ML_law (d + 16) 1430 [some (.ref 2002), some (.ref 0), some (.ref 19), some (.int v3)] [] s w s' := by
  unfold gL_law_1430 at hh
  refine J_aload_n (pc := 1430) dL_law_1430 rfl ?_
  refine J_aload_n (pc := 1431) dL_law_1431 rfl ?_
  refine J_iload_n (pc := 1432) dL_law_1432 rfl ?_
  refine J_iconst (pc := 1433) dL_law_1433 ci_1 ?_
  refine J_iadd (pc := 1434) dL_law_1434 ?_
  obtain ⟨h329, hh⟩ := gd_some hh
  refine J_cald (pc := 1435) (f := X.2) dL_law_1435 rfl h329 ?_
  refine J_aload_n (pc := 1436) dL_law_1436 rfl ?_
  refine J_iload_n (pc := 1437) dL_law_1437 rfl ?_
  refine J_iconst (pc := 1438) dL_law_1438 ci_2 ?_
  refine J_iadd (pc := 1439) dL_law_1439 ?_
  obtain ⟨h330, hh⟩ := gd_some hh
  refine J_cald (pc := 1440) (f := X.2) dL_law_1440 rfl h330 ?_
  refine J_aload_n (pc := 1441) dL_law_1441 rfl ?_
  refine J_iload_n (pc := 1442) dL_law_1442 rfl ?_
  refine J_iconst (pc := 1443) dL_law_1443 ci_3 ?_
  refine J_iadd (pc := 1444) dL_law_1444 ?_
  obtain ⟨h331, hh⟩ := gd_some hh
  refine J_cald (pc := 1445) (f := X.2) dL_law_1445 rfl h331 ?_
  refine J_aload_n (pc := 1446) dL_law_1446 rfl ?_
  refine J_iload_n (pc := 1447) dL_law_1447 rfl ?_
  refine J_iconst (pc := 1448) dL_law_1448 ci_4 ?_
  refine J_iadd (pc := 1449) dL_law_1449 ?_
  obtain ⟨h332, hh⟩ := gd_some hh
  refine J_cald (pc := 1450) (f := X.2) dL_law_1450 rfl h332 ?_
  refine J_aload_n (pc := 1451) dL_law_1451 rfl ?_
  refine J_iload_n (pc := 1452) dL_law_1452 rfl ?_
  refine J_iconst (pc := 1453) dL_law_1453 ci_5 ?_
  refine J_iadd (pc := 1454) dL_law_1454 ?_
  obtain ⟨h333, hh⟩ := gd_some hh
  refine J_cald (pc := 1455) (f := X.2) dL_law_1455 rfl h333 ?_
  obtain ⟨y334, hy334, hh⟩ := bd_some hh
  refine J_callVi (pc := 1456) (M' := MX6_copy) (a := 0) (rest := []) (As := [.int (X.2 (v3 + (1 : Int32)).toNatClampNeg), .int (X.2 (v3 + (2 : Int32)).toNatClampNeg), .int (X.2 (v3 + (3 : Int32)).toNatClampNeg), .int (X.2 (v3 + (4 : Int32)).toNatClampNeg), .int (X.2 (v3 + (5 : Int32)).toNatClampNeg)]) (L0 := [some (.ref 0), some (.int (X.2 (v3 + (1 : Int32)).toNatClampNeg)), some (.int (X.2 (v3 + (2 : Int32)).toNatClampNeg)), some (.int (X.2 (v3 + (3 : Int32)).toNatClampNeg)), some (.int (X.2 (v3 + (4 : Int32)).toNatClampNeg)), some (.int (X.2 (v3 + (5 : Int32)).toNatClampNeg))]) okX6_copy ovX6_copy mlL_168 clX6 so0 rfl rfl (Nat.le_of_ble_eq_true rfl) dL_law_1456 rfl (Nat.le_of_ble_eq_true rfl) (jX6_copy (X := X) (d + 13) s (X.2 (v3 + (1 : Int32)).toNatClampNeg) (X.2 (v3 + (2 : Int32)).toNatClampNeg) (X.2 (v3 + (3 : Int32)).toNatClampNeg) (X.2 (v3 + (4 : Int32)).toNatClampNeg) (X.2 (v3 + (5 : Int32)).toNatClampNeg) hy334) ?_
  refine J_aload_n (pc := 1459) dL_law_1459 rfl ?_
  refine J_aload_n (pc := 1460) dL_law_1460 rfl ?_
  refine J_iload_n (pc := 1461) dL_law_1461 rfl ?_
  refine J_iconst (pc := 1462) dL_law_1462 ci_1 ?_
  refine J_iadd (pc := 1463) dL_law_1463 ?_
  obtain ⟨h335, hh⟩ := gd_some hh
  refine J_cald (pc := 1464) (f := X.2) dL_law_1464 rfl h335 ?_
  refine J_aload_n (pc := 1465) dL_law_1465 rfl ?_
  refine J_iload_n (pc := 1466) dL_law_1466 rfl ?_
  refine J_iconst (pc := 1467) dL_law_1467 ci_2 ?_
  refine J_iadd (pc := 1468) dL_law_1468 ?_
  obtain ⟨h336, hh⟩ := gd_some hh
  refine J_cald (pc := 1469) (f := X.2) dL_law_1469 rfl h336 ?_
  refine J_aload_n (pc := 1470) dL_law_1470 rfl ?_
  refine J_iload_n (pc := 1471) dL_law_1471 rfl ?_
  refine J_iconst (pc := 1472) dL_law_1472 ci_3 ?_
  refine J_iadd (pc := 1473) dL_law_1473 ?_
  obtain ⟨h337, hh⟩ := gd_some hh
  refine J_cald (pc := 1474) (f := X.2) dL_law_1474 rfl h337 ?_
  refine J_aload_n (pc := 1475) dL_law_1475 rfl ?_
  refine J_iload_n (pc := 1476) dL_law_1476 rfl ?_
  refine J_iconst (pc := 1477) dL_law_1477 ci_4 ?_
  refine J_iadd (pc := 1478) dL_law_1478 ?_
  obtain ⟨h338, hh⟩ := gd_some hh
  refine J_cald (pc := 1479) (f := X.2) dL_law_1479 rfl h338 ?_
  refine J_aload_n (pc := 1480) dL_law_1480 rfl ?_
  refine J_iload_n (pc := 1481) dL_law_1481 rfl ?_
  refine J_iconst (pc := 1482) dL_law_1482 ci_5 ?_
  refine J_iadd (pc := 1483) dL_law_1483 ?_
  obtain ⟨h339, hh⟩ := gd_some hh
  refine J_cald (pc := 1484) (f := X.2) dL_law_1484 rfl h339 ?_
  obtain ⟨y340, hy340, hh⟩ := bd_some hh
  refine J_callVi (pc := 1485) (M' := MX7_copy) (a := 19) (rest := [.int y334.1]) (As := [.int (X.2 (v3 + (1 : Int32)).toNatClampNeg), .int (X.2 (v3 + (2 : Int32)).toNatClampNeg), .int (X.2 (v3 + (3 : Int32)).toNatClampNeg), .int (X.2 (v3 + (4 : Int32)).toNatClampNeg), .int (X.2 (v3 + (5 : Int32)).toNatClampNeg)]) (L0 := [some (.ref 19), some (.int (X.2 (v3 + (1 : Int32)).toNatClampNeg)), some (.int (X.2 (v3 + (2 : Int32)).toNatClampNeg)), some (.int (X.2 (v3 + (3 : Int32)).toNatClampNeg)), some (.int (X.2 (v3 + (4 : Int32)).toNatClampNeg)), some (.int (X.2 (v3 + (5 : Int32)).toNatClampNeg)), none]) okX7_copy ovX7_copy mlL_172 clX7 so19 rfl rfl (Nat.le_of_ble_eq_true rfl) dL_law_1485 rfl (Nat.le_of_ble_eq_true rfl) (jX7_copy (X := X) (d + 13) y334.2 (X.2 (v3 + (1 : Int32)).toNatClampNeg) (X.2 (v3 + (2 : Int32)).toNatClampNeg) (X.2 (v3 + (3 : Int32)).toNatClampNeg) (X.2 (v3 + (4 : Int32)).toNatClampNeg) (X.2 (v3 + (5 : Int32)).toNatClampNeg) hy340) ?_
  refine J_icmp_eq (pc := 1488) 1552 dL_law_1488 (by decide) (fun c342 => ?_) (fun c342 => ?_)
  · replace hh := (if_pos c342).symm.trans hh
    refine J_iincL (pc := 1552) (v := v3 + (7 : Int32)) (fun x341 => [some (.ref 2002), some (.ref 0), some (.ref 19), some (.int x341)]) dL_law_1552 rfl rfl (Nat.le_of_ble_eq_true rfl) (congrArg _ ci_7) (fun _ => rfl) hh (fun x341 hh => ?_)
    refine J_goto (pc := 1555) 18 dL_law_1555 (by decide) ?_
    obtain rfl := Option.some.inj hh
    exact hk
  · replace hh := (if_neg c342).symm.trans hh
    refine J_iconst (pc := 1491) dL_law_1491 ci_0 ?_
    obtain rfl := Option.some.inj hh
    obtain ⟨rfl, rfl⟩ := hk
    exact J_ret (w := some (.int (0 : Int32))) ⟨dL_law_1492, _, rfl, rfl⟩
def gL_law_1493 (X : Scr) (s : Mem) (v3 : Int32) : Option (((Int32 × Mem) ⊕ Mem) ⊕ (Int32 × Mem)) :=
  (fX6_undo s).bind (fun y344 => (fX7_undo y344.2).bind (fun y345 => if y344.1 = y345.1 then lt (v3 + (7 : Int32)) (fun x346 => some (Sum.inr (x346, y345.2))) else some (Sum.inl (Sum.inl (((0 : Int32), y345.2))))))
set_option maxRecDepth 4000 in
theorem jgL_law_1493 (d : Nat) (X : Scr) (s : Mem) (v3 : Int32) {r : (((Int32 × Mem) ⊕ Mem) ⊕ (Int32 × Mem))} {w : Option Value} {s' : Mem} (hh : gL_law_1493 X s v3 = some r) (hk : Sum.elim (Sum.elim (fun q : (Int32 × Mem) => w = some (.int q.1) ∧ q.2 = s') (fun t : Mem => J X ML_law (d + 16) 1558 [none, none, none, none] [] t w s')) (fun a : (Int32 × Mem) => J X ML_law (d + 16) 18 [some (.ref 2002), some (.ref 0), some (.ref 19), some (.int a.1)] [] a.2 w s') r) : J X ML_law (d + 16) 1493 [some (.ref 2002), some (.ref 0), some (.ref 19), some (.int v3)] [] s w s' := by
  unfold gL_law_1493 at hh
  refine J_aload_n (pc := 1493) dL_law_1493 rfl ?_
  obtain ⟨y344, hy344, hh⟩ := bd_some hh
  refine J_callVi (pc := 1494) (M' := MX6_undo) (a := 0) (rest := []) (As := []) (L0 := [some (.ref 0)]) okX6_undo ovX6_undo mlL_173 clX6 so0 rfl rfl (Nat.le_of_ble_eq_true rfl) dL_law_1494 rfl (Nat.le_of_ble_eq_true rfl) (jX6_undo (X := X) (d + 11) s hy344) ?_
  refine J_aload_n (pc := 1497) dL_law_1497 rfl ?_
  obtain ⟨y345, hy345, hh⟩ := bd_some hh
  refine J_callVi (pc := 1498) (M' := MX7_undo) (a := 19) (rest := [.int y344.1]) (As := []) (L0 := [some (.ref 19), none, none]) okX7_undo ovX7_undo mlL_176 clX7 so19 rfl rfl (Nat.le_of_ble_eq_true rfl) dL_law_1498 rfl (Nat.le_of_ble_eq_true rfl) (jX7_undo (X := X) (d + 14) y344.2 hy345) ?_
  refine J_icmp_eq (pc := 1501) 1552 dL_law_1501 (by decide) (fun c347 => ?_) (fun c347 => ?_)
  · replace hh := (if_pos c347).symm.trans hh
    refine J_iincL (pc := 1552) (v := v3 + (7 : Int32)) (fun x346 => [some (.ref 2002), some (.ref 0), some (.ref 19), some (.int x346)]) dL_law_1552 rfl rfl (Nat.le_of_ble_eq_true rfl) (congrArg _ ci_7) (fun _ => rfl) hh (fun x346 hh => ?_)
    refine J_goto (pc := 1555) 18 dL_law_1555 (by decide) ?_
    obtain rfl := Option.some.inj hh
    exact hk
  · replace hh := (if_neg c347).symm.trans hh
    refine J_iconst (pc := 1504) dL_law_1504 ci_0 ?_
    obtain rfl := Option.some.inj hh
    obtain ⟨rfl, rfl⟩ := hk
    exact J_ret (w := some (.int (0 : Int32))) ⟨dL_law_1505, _, rfl, rfl⟩
def gL_law_1506 (X : Scr) (s : Mem) (v3 : Int32) : Option (((Int32 × Mem) ⊕ Mem) ⊕ (Int32 × Mem)) :=
  gd (v3 + (1 : Int32)) X.1 ((fX6_count s (X.2 (v3 + (1 : Int32)).toNatClampNeg)).bind (fun y350 => gd (v3 + (1 : Int32)) X.1 ((fX7_count y350.2 (X.2 (v3 + (1 : Int32)).toNatClampNeg)).bind (fun y352 => if y350.1 = y352.1 then lt (v3 + (7 : Int32)) (fun x353 => some (Sum.inr (x353, y352.2))) else some (Sum.inl (Sum.inl (((0 : Int32), y352.2))))))))
set_option maxRecDepth 4000 in
theorem jgL_law_1506 (d : Nat) (X : Scr) (s : Mem) (v3 : Int32) {r : (((Int32 × Mem) ⊕ Mem) ⊕ (Int32 × Mem))} {w : Option Value} {s' : Mem} (hh : gL_law_1506 X s v3 = some r) (hk : Sum.elim (Sum.elim (fun q : (Int32 × Mem) => w = some (.int q.1) ∧ q.2 = s') (fun t : Mem => J X ML_law (d + 16) 1558 [none, none, none, none] [] t w s')) (fun a : (Int32 × Mem) => J X ML_law (d + 16) 18 [some (.ref 2002), some (.ref 0), some (.ref 19), some (.int a.1)] [] a.2 w s') r) : J X ML_law (d + 16) 1506 [some (.ref 2002), some (.ref 0), some (.ref 19), some (.int v3)] [] s w s' := by
  unfold gL_law_1506 at hh
  refine J_aload_n (pc := 1506) dL_law_1506 rfl ?_
  refine J_aload_n (pc := 1507) dL_law_1507 rfl ?_
  refine J_iload_n (pc := 1508) dL_law_1508 rfl ?_
  refine J_iconst (pc := 1509) dL_law_1509 ci_1 ?_
  refine J_iadd (pc := 1510) dL_law_1510 ?_
  obtain ⟨h349, hh⟩ := gd_some hh
  refine J_cald (pc := 1511) (f := X.2) dL_law_1511 rfl h349 ?_
  obtain ⟨y350, hy350, hh⟩ := bd_some hh
  refine J_callVi (pc := 1512) (M' := MX6_count) (a := 0) (rest := []) (As := [.int (X.2 (v3 + (1 : Int32)).toNatClampNeg)]) (L0 := [some (.ref 0), some (.int (X.2 (v3 + (1 : Int32)).toNatClampNeg))]) okX6_count ovX6_count mlL_177 clX6 so0 rfl rfl (Nat.le_of_ble_eq_true rfl) dL_law_1512 rfl (Nat.le_of_ble_eq_true rfl) (jX6_count (X := X) (d + 11) s (X.2 (v3 + (1 : Int32)).toNatClampNeg) hy350) ?_
  refine J_aload_n (pc := 1515) dL_law_1515 rfl ?_
  refine J_aload_n (pc := 1516) dL_law_1516 rfl ?_
  refine J_iload_n (pc := 1517) dL_law_1517 rfl ?_
  refine J_iconst (pc := 1518) dL_law_1518 ci_1 ?_
  refine J_iadd (pc := 1519) dL_law_1519 ?_
  obtain ⟨h351, hh⟩ := gd_some hh
  refine J_cald (pc := 1520) (f := X.2) dL_law_1520 rfl h351 ?_
  obtain ⟨y352, hy352, hh⟩ := bd_some hh
  refine J_callVi (pc := 1521) (M' := MX7_count) (a := 19) (rest := [.int y350.1]) (As := [.int (X.2 (v3 + (1 : Int32)).toNatClampNeg)]) (L0 := [some (.ref 19), some (.int (X.2 (v3 + (1 : Int32)).toNatClampNeg)), none, none, none, none]) okX7_count ovX7_count mlL_180 clX7 so19 rfl rfl (Nat.le_of_ble_eq_true rfl) dL_law_1521 rfl (Nat.le_of_ble_eq_true rfl) (jX7_count (X := X) (d + 8) y350.2 (X.2 (v3 + (1 : Int32)).toNatClampNeg) hy352) ?_
  refine J_icmp_eq (pc := 1524) 1552 dL_law_1524 (by decide) (fun c354 => ?_) (fun c354 => ?_)
  · replace hh := (if_pos c354).symm.trans hh
    refine J_iincL (pc := 1552) (v := v3 + (7 : Int32)) (fun x353 => [some (.ref 2002), some (.ref 0), some (.ref 19), some (.int x353)]) dL_law_1552 rfl rfl (Nat.le_of_ble_eq_true rfl) (congrArg _ ci_7) (fun _ => rfl) hh (fun x353 hh => ?_)
    refine J_goto (pc := 1555) 18 dL_law_1555 (by decide) ?_
    obtain rfl := Option.some.inj hh
    exact hk
  · replace hh := (if_neg c354).symm.trans hh
    refine J_iconst (pc := 1527) dL_law_1527 ci_0 ?_
    obtain rfl := Option.some.inj hh
    obtain ⟨rfl, rfl⟩ := hk
    exact J_ret (w := some (.int (0 : Int32))) ⟨dL_law_1528, _, rfl, rfl⟩
def gL_law_1529 (X : Scr) (s : Mem) (v3 : Int32) : Option (((Int32 × Mem) ⊕ Mem) ⊕ (Int32 × Mem)) :=
  gd (v3 + (1 : Int32)) X.1 ((fX6_status s (X.2 (v3 + (1 : Int32)).toNatClampNeg)).bind (fun y357 => gd (v3 + (1 : Int32)) X.1 ((fX7_status y357.2 (X.2 (v3 + (1 : Int32)).toNatClampNeg)).bind (fun y359 => if y357.1 = y359.1 then lt (v3 + (7 : Int32)) (fun x360 => some (Sum.inr (x360, y359.2))) else some (Sum.inl (Sum.inl (((0 : Int32), y359.2))))))))
set_option maxRecDepth 4000 in
theorem jgL_law_1529 (d : Nat) (X : Scr) (s : Mem) (v3 : Int32) {r : (((Int32 × Mem) ⊕ Mem) ⊕ (Int32 × Mem))} {w : Option Value} {s' : Mem} (hh : gL_law_1529 X s v3 = some r) (hk : Sum.elim (Sum.elim (fun q : (Int32 × Mem) => w = some (.int q.1) ∧ q.2 = s') (fun t : Mem => J X ML_law (d + 16) 1558 [none, none, none, none] [] t w s')) (fun a : (Int32 × Mem) => J X ML_law (d + 16) 18 [some (.ref 2002), some (.ref 0), some (.ref 19), some (.int a.1)] [] a.2 w s') r) : J X ML_law (d + 16) 1529 [some (.ref 2002), some (.ref 0), some (.ref 19), some (.int v3)] [] s w s' := by
  unfold gL_law_1529 at hh
  refine J_aload_n (pc := 1529) dL_law_1529 rfl ?_
  refine J_aload_n (pc := 1530) dL_law_1530 rfl ?_
  refine J_iload_n (pc := 1531) dL_law_1531 rfl ?_
  refine J_iconst (pc := 1532) dL_law_1532 ci_1 ?_
  refine J_iadd (pc := 1533) dL_law_1533 ?_
  obtain ⟨h356, hh⟩ := gd_some hh
  refine J_cald (pc := 1534) (f := X.2) dL_law_1534 rfl h356 ?_
  obtain ⟨y357, hy357, hh⟩ := bd_some hh
  refine J_callVi (pc := 1535) (M' := MX6_status) (a := 0) (rest := []) (As := [.int (X.2 (v3 + (1 : Int32)).toNatClampNeg)]) (L0 := [some (.ref 0), some (.int (X.2 (v3 + (1 : Int32)).toNatClampNeg)), none, none]) okX6_status ovX6_status mlL_181 clX6 so0 rfl rfl (Nat.le_of_ble_eq_true rfl) dL_law_1535 rfl (Nat.le_of_ble_eq_true rfl) (jX6_status (X := X) (d + 13) s (X.2 (v3 + (1 : Int32)).toNatClampNeg) hy357) ?_
  refine J_aload_n (pc := 1538) dL_law_1538 rfl ?_
  refine J_aload_n (pc := 1539) dL_law_1539 rfl ?_
  refine J_iload_n (pc := 1540) dL_law_1540 rfl ?_
  refine J_iconst (pc := 1541) dL_law_1541 ci_1 ?_
  refine J_iadd (pc := 1542) dL_law_1542 ?_
  obtain ⟨h358, hh⟩ := gd_some hh
  refine J_cald (pc := 1543) (f := X.2) dL_law_1543 rfl h358 ?_
  obtain ⟨y359, hy359, hh⟩ := bd_some hh
  refine J_callVi (pc := 1544) (M' := MX7_status) (a := 19) (rest := [.int y357.1]) (As := [.int (X.2 (v3 + (1 : Int32)).toNatClampNeg)]) (L0 := [some (.ref 19), some (.int (X.2 (v3 + (1 : Int32)).toNatClampNeg)), none, none]) okX7_status ovX7_status mlL_184 clX7 so19 rfl rfl (Nat.le_of_ble_eq_true rfl) dL_law_1544 rfl (Nat.le_of_ble_eq_true rfl) (jX7_status (X := X) (d + 14) y357.2 (X.2 (v3 + (1 : Int32)).toNatClampNeg) hy359) ?_
  refine J_icmp_eq (pc := 1547) 1552 dL_law_1547 (by decide) (fun c361 => ?_) (fun c361 => ?_)
  · replace hh := (if_pos c361).symm.trans hh
    refine J_iincL (pc := 1552) (v := v3 + (7 : Int32)) (fun x360 => [some (.ref 2002), some (.ref 0), some (.ref 19), some (.int x360)]) dL_law_1552 rfl rfl (Nat.le_of_ble_eq_true rfl) (congrArg _ ci_7) (fun _ => rfl) hh (fun x360 hh => ?_)
    refine J_goto (pc := 1555) 18 dL_law_1555 (by decide) ?_
    obtain rfl := Option.some.inj hh
    exact hk
  · replace hh := (if_neg c361).symm.trans hh
    refine J_iconst (pc := 1550) dL_law_1550 ci_0 ?_
    obtain rfl := Option.some.inj hh
    obtain ⟨rfl, rfl⟩ := hk
    exact J_ret (w := some (.int (0 : Int32))) ⟨dL_law_1551, _, rfl, rfl⟩
def bL_law_18 (X : Scr) (s : Mem) (v3 : Int32) : Option (((Int32 × Mem) ⊕ Mem) ⊕ (Int32 × Mem)) :=
  if ((Int32.ofNat X.1) - (7 : Int32)) < v3 then some (Sum.inl (Sum.inr s)) else gd v3 X.1 (if ((X.2 v3.toNatClampNeg) &&& (63 : Int32)) = (0 : Int32) then gL_law_208 X s v3 else if ((X.2 v3.toNatClampNeg) &&& (63 : Int32)) = (1 : Int32) then gL_law_283 X s v3 else if ((X.2 v3.toNatClampNeg) &&& (63 : Int32)) = (2 : Int32) then gL_law_326 X s v3 else if ((X.2 v3.toNatClampNeg) &&& (63 : Int32)) = (3 : Int32) then gL_law_379 X s v3 else if ((X.2 v3.toNatClampNeg) &&& (63 : Int32)) = (4 : Int32) then gL_law_402 X s v3 else if ((X.2 v3.toNatClampNeg) &&& (63 : Int32)) = (5 : Int32) then gL_law_435 X s v3 else if ((X.2 v3.toNatClampNeg) &&& (63 : Int32)) = (6 : Int32) then gL_law_458 X s v3 else if ((X.2 v3.toNatClampNeg) &&& (63 : Int32)) = (7 : Int32) then gL_law_501 X s v3 else if ((X.2 v3.toNatClampNeg) &&& (63 : Int32)) = (8 : Int32) then gL_law_514 X s v3 else if ((X.2 v3.toNatClampNeg) &&& (63 : Int32)) = (9 : Int32) then gL_law_547 X s v3 else if ((X.2 v3.toNatClampNeg) &&& (63 : Int32)) = (10 : Int32) then gL_law_590 X s v3 else if ((X.2 v3.toNatClampNeg) &&& (63 : Int32)) = (11 : Int32) then gL_law_623 X s v3 else if ((X.2 v3.toNatClampNeg) &&& (63 : Int32)) = (12 : Int32) then gL_law_656 X s v3 else if ((X.2 v3.toNatClampNeg) &&& (63 : Int32)) = (13 : Int32) then gL_law_699 X s v3 else if ((X.2 v3.toNatClampNeg) &&& (63 : Int32)) = (14 : Int32) then gL_law_732 X s v3 else if ((X.2 v3.toNatClampNeg) &&& (63 : Int32)) = (15 : Int32) then gL_law_775 X s v3 else if ((X.2 v3.toNatClampNeg) &&& (63 : Int32)) = (16 : Int32) then gL_law_808 X s v3 else if ((X.2 v3.toNatClampNeg) &&& (63 : Int32)) = (17 : Int32) then gL_law_851 X s v3 else if ((X.2 v3.toNatClampNeg) &&& (63 : Int32)) = (18 : Int32) then gL_law_894 X s v3 else if ((X.2 v3.toNatClampNeg) &&& (63 : Int32)) = (19 : Int32) then gL_law_917 X s v3 else if ((X.2 v3.toNatClampNeg) &&& (63 : Int32)) = (20 : Int32) then gL_law_960 X s v3 else if ((X.2 v3.toNatClampNeg) &&& (63 : Int32)) = (21 : Int32) then gL_law_983 X s v3 else if ((X.2 v3.toNatClampNeg) &&& (63 : Int32)) = (22 : Int32) then gL_law_1006 X s v3 else if ((X.2 v3.toNatClampNeg) &&& (63 : Int32)) = (23 : Int32) then gL_law_1029 X s v3 else if ((X.2 v3.toNatClampNeg) &&& (63 : Int32)) = (24 : Int32) then gL_law_1062 X s v3 else if ((X.2 v3.toNatClampNeg) &&& (63 : Int32)) = (25 : Int32) then gL_law_1095 X s v3 else if ((X.2 v3.toNatClampNeg) &&& (63 : Int32)) = (26 : Int32) then gL_law_1119 X s v3 else if ((X.2 v3.toNatClampNeg) &&& (63 : Int32)) = (27 : Int32) then gL_law_1142 X s v3 else if ((X.2 v3.toNatClampNeg) &&& (63 : Int32)) = (28 : Int32) then gL_law_1165 X s v3 else if ((X.2 v3.toNatClampNeg) &&& (63 : Int32)) = (29 : Int32) then gL_law_1188 X s v3 else if ((X.2 v3.toNatClampNeg) &&& (63 : Int32)) = (30 : Int32) then gL_law_1221 X s v3 else if ((X.2 v3.toNatClampNeg) &&& (63 : Int32)) = (31 : Int32) then gL_law_1234 X s v3 else if ((X.2 v3.toNatClampNeg) &&& (63 : Int32)) = (32 : Int32) then gL_law_1247 X s v3 else if ((X.2 v3.toNatClampNeg) &&& (63 : Int32)) = (33 : Int32) then gL_law_1280 X s v3 else if ((X.2 v3.toNatClampNeg) &&& (63 : Int32)) = (34 : Int32) then gL_law_1323 X s v3 else if ((X.2 v3.toNatClampNeg) &&& (63 : Int32)) = (35 : Int32) then gL_law_1396 X s v3 else if ((X.2 v3.toNatClampNeg) &&& (63 : Int32)) = (36 : Int32) then gL_law_1430 X s v3 else if ((X.2 v3.toNatClampNeg) &&& (63 : Int32)) = (37 : Int32) then gL_law_1493 X s v3 else if ((X.2 v3.toNatClampNeg) &&& (63 : Int32)) = (38 : Int32) then gL_law_1506 X s v3 else if ((X.2 v3.toNatClampNeg) &&& (63 : Int32)) = (39 : Int32) then gL_law_1529 X s v3 else lt (v3 + (7 : Int32)) (fun x362 => some (Sum.inr (x362, s))))
set_option maxRecDepth 4000 in
theorem jbL_law_18 (d : Nat) (X : Scr) (s : Mem) (v3 : Int32) {r : (((Int32 × Mem) ⊕ Mem) ⊕ (Int32 × Mem))} {w : Option Value} {s' : Mem} (hh : bL_law_18 X s v3 = some r) (hk : Sum.elim (Sum.elim (fun q : (Int32 × Mem) => w = some (.int q.1) ∧ q.2 = s') (fun t : Mem => J X ML_law (d + 16) 1558 [none, none, none, none] [] t w s')) (fun a : (Int32 × Mem) => J X ML_law (d + 16) 18 [some (.ref 2002), some (.ref 0), some (.ref 19), some (.int a.1)] [] a.2 w s') r) : J X ML_law (d + 16) 18 [some (.ref 2002), some (.ref 0), some (.ref 19), some (.int v3)] [] s w s' := by
  unfold bL_law_18 at hh
  refine J_iload_n (pc := 18) dL_law_18 rfl ?_
  refine J_aload_n (pc := 19) dL_law_19 rfl ?_
  refine J_clen (pc := 20) (n := X.1) (f := X.2) dL_law_20 rfl ?_
  refine J_bipush (pc := 21) dL_law_21 cb_7 ?_
  refine J_isub (pc := 23) dL_law_23 ?_
  refine J_icmp_gt (pc := 24) 1558 dL_law_24 (by decide) (fun c363 => ?_) (fun c363 => ?_)
  · replace hh := (if_pos c363).symm.trans hh
    refine J_drop 0 (L' := [none, some (.ref 0), some (.ref 19), some (.int v3)]) rfl ?_
    refine J_drop 1 (L' := [none, none, some (.ref 19), some (.int v3)]) rfl ?_
    refine J_drop 2 (L' := [none, none, none, some (.int v3)]) rfl ?_
    refine J_drop 3 (L' := [none, none, none, none]) rfl ?_
    obtain rfl := Option.some.inj hh
    exact hk
  · replace hh := (if_neg c363).symm.trans hh
    refine J_aload_n (pc := 27) dL_law_27 rfl ?_
    refine J_iload_n (pc := 28) dL_law_28 rfl ?_
    obtain ⟨h1, hh⟩ := gd_some hh
    refine J_cald (pc := 29) (f := X.2) dL_law_29 rfl h1 ?_
    refine J_bipush (pc := 30) dL_law_30 cb_63 ?_
    refine J_iand (pc := 32) dL_law_32 ?_
    by_cases c2 : ((X.2 v3.toNatClampNeg) &&& (63 : Int32)) = (0 : Int32)
    · replace hh := (if_pos c2).symm.trans hh
      refine J_swIn (pc := 33) 208 dL_law_33 (by rw [c2]; decide) (by rw [c2]; decide) (by rw [c2]; rfl) (by decide) ?_
      exact jgL_law_208 d X s v3 hh hk
    replace hh := (if_neg c2).symm.trans hh
    by_cases c19 : ((X.2 v3.toNatClampNeg) &&& (63 : Int32)) = (1 : Int32)
    · replace hh := (if_pos c19).symm.trans hh
      refine J_swIn (pc := 33) 283 dL_law_33 (by rw [c19]; decide) (by rw [c19]; decide) (by rw [c19]; rfl) (by decide) ?_
      exact jgL_law_283 d X s v3 hh hk
    replace hh := (if_neg c19).symm.trans hh
    by_cases c30 : ((X.2 v3.toNatClampNeg) &&& (63 : Int32)) = (2 : Int32)
    · replace hh := (if_pos c30).symm.trans hh
      refine J_swIn (pc := 33) 326 dL_law_33 (by rw [c30]; decide) (by rw [c30]; decide) (by rw [c30]; rfl) (by decide) ?_
      exact jgL_law_326 d X s v3 hh hk
    replace hh := (if_neg c30).symm.trans hh
    by_cases c43 : ((X.2 v3.toNatClampNeg) &&& (63 : Int32)) = (3 : Int32)
    · replace hh := (if_pos c43).symm.trans hh
      refine J_swIn (pc := 33) 379 dL_law_33 (by rw [c43]; decide) (by rw [c43]; decide) (by rw [c43]; rfl) (by decide) ?_
      exact jgL_law_379 d X s v3 hh hk
    replace hh := (if_neg c43).symm.trans hh
    by_cases c50 : ((X.2 v3.toNatClampNeg) &&& (63 : Int32)) = (4 : Int32)
    · replace hh := (if_pos c50).symm.trans hh
      refine J_swIn (pc := 33) 402 dL_law_33 (by rw [c50]; decide) (by rw [c50]; decide) (by rw [c50]; rfl) (by decide) ?_
      exact jgL_law_402 d X s v3 hh hk
    replace hh := (if_neg c50).symm.trans hh
    by_cases c59 : ((X.2 v3.toNatClampNeg) &&& (63 : Int32)) = (5 : Int32)
    · replace hh := (if_pos c59).symm.trans hh
      refine J_swIn (pc := 33) 435 dL_law_33 (by rw [c59]; decide) (by rw [c59]; decide) (by rw [c59]; rfl) (by decide) ?_
      exact jgL_law_435 d X s v3 hh hk
    replace hh := (if_neg c59).symm.trans hh
    by_cases c66 : ((X.2 v3.toNatClampNeg) &&& (63 : Int32)) = (6 : Int32)
    · replace hh := (if_pos c66).symm.trans hh
      refine J_swIn (pc := 33) 458 dL_law_33 (by rw [c66]; decide) (by rw [c66]; decide) (by rw [c66]; rfl) (by decide) ?_
      exact jgL_law_458 d X s v3 hh hk
    replace hh := (if_neg c66).symm.trans hh
    by_cases c77 : ((X.2 v3.toNatClampNeg) &&& (63 : Int32)) = (7 : Int32)
    · replace hh := (if_pos c77).symm.trans hh
      refine J_swIn (pc := 33) 501 dL_law_33 (by rw [c77]; decide) (by rw [c77]; decide) (by rw [c77]; rfl) (by decide) ?_
      exact jgL_law_501 d X s v3 hh hk
    replace hh := (if_neg c77).symm.trans hh
    by_cases c82 : ((X.2 v3.toNatClampNeg) &&& (63 : Int32)) = (8 : Int32)
    · replace hh := (if_pos c82).symm.trans hh
      refine J_swIn (pc := 33) 514 dL_law_33 (by rw [c82]; decide) (by rw [c82]; decide) (by rw [c82]; rfl) (by decide) ?_
      exact jgL_law_514 d X s v3 hh hk
    replace hh := (if_neg c82).symm.trans hh
    by_cases c91 : ((X.2 v3.toNatClampNeg) &&& (63 : Int32)) = (9 : Int32)
    · replace hh := (if_pos c91).symm.trans hh
      refine J_swIn (pc := 33) 547 dL_law_33 (by rw [c91]; decide) (by rw [c91]; decide) (by rw [c91]; rfl) (by decide) ?_
      exact jgL_law_547 d X s v3 hh hk
    replace hh := (if_neg c91).symm.trans hh
    by_cases c102 : ((X.2 v3.toNatClampNeg) &&& (63 : Int32)) = (10 : Int32)
    · replace hh := (if_pos c102).symm.trans hh
      refine J_swIn (pc := 33) 590 dL_law_33 (by rw [c102]; decide) (by rw [c102]; decide) (by rw [c102]; rfl) (by decide) ?_
      exact jgL_law_590 d X s v3 hh hk
    replace hh := (if_neg c102).symm.trans hh
    by_cases c111 : ((X.2 v3.toNatClampNeg) &&& (63 : Int32)) = (11 : Int32)
    · replace hh := (if_pos c111).symm.trans hh
      refine J_swIn (pc := 33) 623 dL_law_33 (by rw [c111]; decide) (by rw [c111]; decide) (by rw [c111]; rfl) (by decide) ?_
      exact jgL_law_623 d X s v3 hh hk
    replace hh := (if_neg c111).symm.trans hh
    by_cases c120 : ((X.2 v3.toNatClampNeg) &&& (63 : Int32)) = (12 : Int32)
    · replace hh := (if_pos c120).symm.trans hh
      refine J_swIn (pc := 33) 656 dL_law_33 (by rw [c120]; decide) (by rw [c120]; decide) (by rw [c120]; rfl) (by decide) ?_
      exact jgL_law_656 d X s v3 hh hk
    replace hh := (if_neg c120).symm.trans hh
    by_cases c131 : ((X.2 v3.toNatClampNeg) &&& (63 : Int32)) = (13 : Int32)
    · replace hh := (if_pos c131).symm.trans hh
      refine J_swIn (pc := 33) 699 dL_law_33 (by rw [c131]; decide) (by rw [c131]; decide) (by rw [c131]; rfl) (by decide) ?_
      exact jgL_law_699 d X s v3 hh hk
    replace hh := (if_neg c131).symm.trans hh
    by_cases c140 : ((X.2 v3.toNatClampNeg) &&& (63 : Int32)) = (14 : Int32)
    · replace hh := (if_pos c140).symm.trans hh
      refine J_swIn (pc := 33) 732 dL_law_33 (by rw [c140]; decide) (by rw [c140]; decide) (by rw [c140]; rfl) (by decide) ?_
      exact jgL_law_732 d X s v3 hh hk
    replace hh := (if_neg c140).symm.trans hh
    by_cases c151 : ((X.2 v3.toNatClampNeg) &&& (63 : Int32)) = (15 : Int32)
    · replace hh := (if_pos c151).symm.trans hh
      refine J_swIn (pc := 33) 775 dL_law_33 (by rw [c151]; decide) (by rw [c151]; decide) (by rw [c151]; rfl) (by decide) ?_
      exact jgL_law_775 d X s v3 hh hk
    replace hh := (if_neg c151).symm.trans hh
    by_cases c160 : ((X.2 v3.toNatClampNeg) &&& (63 : Int32)) = (16 : Int32)
    · replace hh := (if_pos c160).symm.trans hh
      refine J_swIn (pc := 33) 808 dL_law_33 (by rw [c160]; decide) (by rw [c160]; decide) (by rw [c160]; rfl) (by decide) ?_
      exact jgL_law_808 d X s v3 hh hk
    replace hh := (if_neg c160).symm.trans hh
    by_cases c171 : ((X.2 v3.toNatClampNeg) &&& (63 : Int32)) = (17 : Int32)
    · replace hh := (if_pos c171).symm.trans hh
      refine J_swIn (pc := 33) 851 dL_law_33 (by rw [c171]; decide) (by rw [c171]; decide) (by rw [c171]; rfl) (by decide) ?_
      exact jgL_law_851 d X s v3 hh hk
    replace hh := (if_neg c171).symm.trans hh
    by_cases c182 : ((X.2 v3.toNatClampNeg) &&& (63 : Int32)) = (18 : Int32)
    · replace hh := (if_pos c182).symm.trans hh
      refine J_swIn (pc := 33) 894 dL_law_33 (by rw [c182]; decide) (by rw [c182]; decide) (by rw [c182]; rfl) (by decide) ?_
      exact jgL_law_894 d X s v3 hh hk
    replace hh := (if_neg c182).symm.trans hh
    by_cases c189 : ((X.2 v3.toNatClampNeg) &&& (63 : Int32)) = (19 : Int32)
    · replace hh := (if_pos c189).symm.trans hh
      refine J_swIn (pc := 33) 917 dL_law_33 (by rw [c189]; decide) (by rw [c189]; decide) (by rw [c189]; rfl) (by decide) ?_
      exact jgL_law_917 d X s v3 hh hk
    replace hh := (if_neg c189).symm.trans hh
    by_cases c200 : ((X.2 v3.toNatClampNeg) &&& (63 : Int32)) = (20 : Int32)
    · replace hh := (if_pos c200).symm.trans hh
      refine J_swIn (pc := 33) 960 dL_law_33 (by rw [c200]; decide) (by rw [c200]; decide) (by rw [c200]; rfl) (by decide) ?_
      exact jgL_law_960 d X s v3 hh hk
    replace hh := (if_neg c200).symm.trans hh
    by_cases c207 : ((X.2 v3.toNatClampNeg) &&& (63 : Int32)) = (21 : Int32)
    · replace hh := (if_pos c207).symm.trans hh
      refine J_swIn (pc := 33) 983 dL_law_33 (by rw [c207]; decide) (by rw [c207]; decide) (by rw [c207]; rfl) (by decide) ?_
      exact jgL_law_983 d X s v3 hh hk
    replace hh := (if_neg c207).symm.trans hh
    by_cases c214 : ((X.2 v3.toNatClampNeg) &&& (63 : Int32)) = (22 : Int32)
    · replace hh := (if_pos c214).symm.trans hh
      refine J_swIn (pc := 33) 1006 dL_law_33 (by rw [c214]; decide) (by rw [c214]; decide) (by rw [c214]; rfl) (by decide) ?_
      exact jgL_law_1006 d X s v3 hh hk
    replace hh := (if_neg c214).symm.trans hh
    by_cases c221 : ((X.2 v3.toNatClampNeg) &&& (63 : Int32)) = (23 : Int32)
    · replace hh := (if_pos c221).symm.trans hh
      refine J_swIn (pc := 33) 1029 dL_law_33 (by rw [c221]; decide) (by rw [c221]; decide) (by rw [c221]; rfl) (by decide) ?_
      exact jgL_law_1029 d X s v3 hh hk
    replace hh := (if_neg c221).symm.trans hh
    by_cases c230 : ((X.2 v3.toNatClampNeg) &&& (63 : Int32)) = (24 : Int32)
    · replace hh := (if_pos c230).symm.trans hh
      refine J_swIn (pc := 33) 1062 dL_law_33 (by rw [c230]; decide) (by rw [c230]; decide) (by rw [c230]; rfl) (by decide) ?_
      exact jgL_law_1062 d X s v3 hh hk
    replace hh := (if_neg c230).symm.trans hh
    by_cases c239 : ((X.2 v3.toNatClampNeg) &&& (63 : Int32)) = (25 : Int32)
    · replace hh := (if_pos c239).symm.trans hh
      refine J_swIn (pc := 33) 1095 dL_law_33 (by rw [c239]; decide) (by rw [c239]; decide) (by rw [c239]; rfl) (by decide) ?_
      exact jgL_law_1095 d X s v3 hh hk
    replace hh := (if_neg c239).symm.trans hh
    by_cases c246 : ((X.2 v3.toNatClampNeg) &&& (63 : Int32)) = (26 : Int32)
    · replace hh := (if_pos c246).symm.trans hh
      refine J_swIn (pc := 33) 1119 dL_law_33 (by rw [c246]; decide) (by rw [c246]; decide) (by rw [c246]; rfl) (by decide) ?_
      exact jgL_law_1119 d X s v3 hh hk
    replace hh := (if_neg c246).symm.trans hh
    by_cases c253 : ((X.2 v3.toNatClampNeg) &&& (63 : Int32)) = (27 : Int32)
    · replace hh := (if_pos c253).symm.trans hh
      refine J_swIn (pc := 33) 1142 dL_law_33 (by rw [c253]; decide) (by rw [c253]; decide) (by rw [c253]; rfl) (by decide) ?_
      exact jgL_law_1142 d X s v3 hh hk
    replace hh := (if_neg c253).symm.trans hh
    by_cases c260 : ((X.2 v3.toNatClampNeg) &&& (63 : Int32)) = (28 : Int32)
    · replace hh := (if_pos c260).symm.trans hh
      refine J_swIn (pc := 33) 1165 dL_law_33 (by rw [c260]; decide) (by rw [c260]; decide) (by rw [c260]; rfl) (by decide) ?_
      exact jgL_law_1165 d X s v3 hh hk
    replace hh := (if_neg c260).symm.trans hh
    by_cases c267 : ((X.2 v3.toNatClampNeg) &&& (63 : Int32)) = (29 : Int32)
    · replace hh := (if_pos c267).symm.trans hh
      refine J_swIn (pc := 33) 1188 dL_law_33 (by rw [c267]; decide) (by rw [c267]; decide) (by rw [c267]; rfl) (by decide) ?_
      exact jgL_law_1188 d X s v3 hh hk
    replace hh := (if_neg c267).symm.trans hh
    by_cases c276 : ((X.2 v3.toNatClampNeg) &&& (63 : Int32)) = (30 : Int32)
    · replace hh := (if_pos c276).symm.trans hh
      refine J_swIn (pc := 33) 1221 dL_law_33 (by rw [c276]; decide) (by rw [c276]; decide) (by rw [c276]; rfl) (by decide) ?_
      exact jgL_law_1221 d X s v3 hh hk
    replace hh := (if_neg c276).symm.trans hh
    by_cases c281 : ((X.2 v3.toNatClampNeg) &&& (63 : Int32)) = (31 : Int32)
    · replace hh := (if_pos c281).symm.trans hh
      refine J_swIn (pc := 33) 1234 dL_law_33 (by rw [c281]; decide) (by rw [c281]; decide) (by rw [c281]; rfl) (by decide) ?_
      exact jgL_law_1234 d X s v3 hh hk
    replace hh := (if_neg c281).symm.trans hh
    by_cases c286 : ((X.2 v3.toNatClampNeg) &&& (63 : Int32)) = (32 : Int32)
    · replace hh := (if_pos c286).symm.trans hh
      refine J_swIn (pc := 33) 1247 dL_law_33 (by rw [c286]; decide) (by rw [c286]; decide) (by rw [c286]; rfl) (by decide) ?_
      exact jgL_law_1247 d X s v3 hh hk
    replace hh := (if_neg c286).symm.trans hh
    by_cases c295 : ((X.2 v3.toNatClampNeg) &&& (63 : Int32)) = (33 : Int32)
    · replace hh := (if_pos c295).symm.trans hh
      refine J_swIn (pc := 33) 1280 dL_law_33 (by rw [c295]; decide) (by rw [c295]; decide) (by rw [c295]; rfl) (by decide) ?_
      exact jgL_law_1280 d X s v3 hh hk
    replace hh := (if_neg c295).symm.trans hh
    by_cases c306 : ((X.2 v3.toNatClampNeg) &&& (63 : Int32)) = (34 : Int32)
    · replace hh := (if_pos c306).symm.trans hh
      refine J_swIn (pc := 33) 1323 dL_law_33 (by rw [c306]; decide) (by rw [c306]; decide) (by rw [c306]; rfl) (by decide) ?_
      exact jgL_law_1323 d X s v3 hh hk
    replace hh := (if_neg c306).symm.trans hh
    by_cases c319 : ((X.2 v3.toNatClampNeg) &&& (63 : Int32)) = (35 : Int32)
    · replace hh := (if_pos c319).symm.trans hh
      refine J_swIn (pc := 33) 1396 dL_law_33 (by rw [c319]; decide) (by rw [c319]; decide) (by rw [c319]; rfl) (by decide) ?_
      exact jgL_law_1396 d X s v3 hh hk
    replace hh := (if_neg c319).symm.trans hh
    by_cases c328 : ((X.2 v3.toNatClampNeg) &&& (63 : Int32)) = (36 : Int32)
    · replace hh := (if_pos c328).symm.trans hh
      refine J_swIn (pc := 33) 1430 dL_law_33 (by rw [c328]; decide) (by rw [c328]; decide) (by rw [c328]; rfl) (by decide) ?_
      exact jgL_law_1430 d X s v3 hh hk
    replace hh := (if_neg c328).symm.trans hh
    by_cases c343 : ((X.2 v3.toNatClampNeg) &&& (63 : Int32)) = (37 : Int32)
    · replace hh := (if_pos c343).symm.trans hh
      refine J_swIn (pc := 33) 1493 dL_law_33 (by rw [c343]; decide) (by rw [c343]; decide) (by rw [c343]; rfl) (by decide) ?_
      exact jgL_law_1493 d X s v3 hh hk
    replace hh := (if_neg c343).symm.trans hh
    by_cases c348 : ((X.2 v3.toNatClampNeg) &&& (63 : Int32)) = (38 : Int32)
    · replace hh := (if_pos c348).symm.trans hh
      refine J_swIn (pc := 33) 1506 dL_law_33 (by rw [c348]; decide) (by rw [c348]; decide) (by rw [c348]; rfl) (by decide) ?_
      exact jgL_law_1506 d X s v3 hh hk
    replace hh := (if_neg c348).symm.trans hh
    by_cases c355 : ((X.2 v3.toNatClampNeg) &&& (63 : Int32)) = (39 : Int32)
    · replace hh := (if_pos c355).symm.trans hh
      refine J_swIn (pc := 33) 1529 dL_law_33 (by rw [c355]; decide) (by rw [c355]; decide) (by rw [c355]; rfl) (by decide) ?_
      exact jgL_law_1529 d X s v3 hh hk
    replace hh := (if_neg c355).symm.trans hh
    refine J_swOut (pc := 33) 1552 dL_law_33 (by have := lv_neT c2 (a := 0) (by decide); have := lv_neT c19 (a := 1) (by decide); have := lv_neT c30 (a := 2) (by decide); have := lv_neT c43 (a := 3) (by decide); have := lv_neT c50 (a := 4) (by decide); have := lv_neT c59 (a := 5) (by decide); have := lv_neT c66 (a := 6) (by decide); have := lv_neT c77 (a := 7) (by decide); have := lv_neT c82 (a := 8) (by decide); have := lv_neT c91 (a := 9) (by decide); have := lv_neT c102 (a := 10) (by decide); have := lv_neT c111 (a := 11) (by decide); have := lv_neT c120 (a := 12) (by decide); have := lv_neT c131 (a := 13) (by decide); have := lv_neT c140 (a := 14) (by decide); have := lv_neT c151 (a := 15) (by decide); have := lv_neT c160 (a := 16) (by decide); have := lv_neT c171 (a := 17) (by decide); have := lv_neT c182 (a := 18) (by decide); have := lv_neT c189 (a := 19) (by decide); have := lv_neT c200 (a := 20) (by decide); have := lv_neT c207 (a := 21) (by decide); have := lv_neT c214 (a := 22) (by decide); have := lv_neT c221 (a := 23) (by decide); have := lv_neT c230 (a := 24) (by decide); have := lv_neT c239 (a := 25) (by decide); have := lv_neT c246 (a := 26) (by decide); have := lv_neT c253 (a := 27) (by decide); have := lv_neT c260 (a := 28) (by decide); have := lv_neT c267 (a := 29) (by decide); have := lv_neT c276 (a := 30) (by decide); have := lv_neT c281 (a := 31) (by decide); have := lv_neT c286 (a := 32) (by decide); have := lv_neT c295 (a := 33) (by decide); have := lv_neT c306 (a := 34) (by decide); have := lv_neT c319 (a := 35) (by decide); have := lv_neT c328 (a := 36) (by decide); have := lv_neT c343 (a := 37) (by decide); have := lv_neT c348 (a := 38) (by decide); have := lv_neT c355 (a := 39) (by decide); omega) (by decide) ?_
    refine J_iincL (pc := 1552) (v := v3 + (7 : Int32)) (fun x362 => [some (.ref 2002), some (.ref 0), some (.ref 19), some (.int x362)]) dL_law_1552 rfl rfl (Nat.le_of_ble_eq_true rfl) (congrArg _ ci_7) (fun _ => rfl) hh (fun x362 hh => ?_)
    refine J_goto (pc := 1555) 18 dL_law_1555 (by decide) ?_
    obtain rfl := Option.some.inj hh
    exact hk
def fL_law (X : Scr) (s : Mem)  : Option (Int32 × Mem) :=
  (lp (fun a => bL_law_18 X a.2 a.1) 600 ((0 : Int32), s)).bind (fun y364 => Sum.elim (fun q366 => some q366) (fun t365 => some (((1 : Int32), t365))) y364)
set_option maxRecDepth 4000 in
theorem jjL_law (d : Nat) (X : Scr) (s : Mem)  {r : (Int32 × Mem)} {w : Option Value} {s' : Mem} (hh : fL_law X s = some r) (hk : w = some (.int r.1) ∧ r.2 = s') : J X ML_law (d + 16) 16 [some (.ref 2002), some (.ref 0), some (.ref 19), none] [] s w s' := by
  unfold fL_law at hh
  refine J_iconst (pc := 16) dL_law_16 ci_0 ?_
  refine J_istore_n (pc := 17) (L' := [some (.ref 2002), some (.ref 0), some (.ref 19), some (.int (0 : Int32))]) dL_law_17 rfl (Nat.le_of_ble_eq_true rfl) rfl ?_
  obtain ⟨y364, hy364, hh⟩ := bd_some hh
  refine J_lp (a := ((0 : Int32), s)) (fun a : (Int32 × Mem) => J X ML_law (d + 16) 18 [some (.ref 2002), some (.ref 0), some (.ref 19), some (.int a.1)] [] a.2 w s') (Sum.elim (fun q : (Int32 × Mem) => w = some (.int q.1) ∧ q.2 = s') (fun t : Mem => J X ML_law (d + 16) 1558 [none, none, none, none] [] t w s')) (fun a q h1 h2 => jbL_law_18 d X a.2 a.1 h1 h2) hy364 ?_
  cases y364 with
  | inl q366 =>
    obtain rfl := Option.some.inj hh
    exact hk
  | inr t365 =>
    skip
    replace hh : (some (((1 : Int32), t365))) = some r := hh
    refine J_iconst (pc := 1558) dL_law_1558 ci_1 ?_
    obtain rfl := Option.some.inj hh
    obtain ⟨rfl, rfl⟩ := hk
    exact J_ret (w := some (.int (1 : Int32))) ⟨dL_law_1559, _, rfl, rfl⟩
