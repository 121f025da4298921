theorem dL_law_0 : decode code 0 = .ok (.new 7, 3) := by decide +kernel
theorem dL_law_3 : decode code 3 = .ok (.dup, 1) := by decide +kernel
theorem dL_law_4 : decode code 4 = .ok (.invokespecial 9, 3) := by decide +kernel
theorem dL_law_7 : decode code 7 = .ok (.astore_n 1, 1) := by decide +kernel
theorem dL_law_8 : decode code 8 = .ok (.new 10, 3) := by decide +kernel
theorem dL_law_11 : decode code 11 = .ok (.dup, 1) := by decide +kernel
theorem dL_law_12 : decode code 12 = .ok (.invokespecial 12, 3) := by decide +kernel
theorem dL_law_15 : decode code 15 = .ok (.astore_n 2, 1) := by decide +kernel
theorem dL_law_16 : decode code 16 = .ok (.iconst 0, 1) := by decide +kernel
theorem dL_law_17 : decode code 17 = .ok (.istore_n 3, 1) := by decide +kernel
theorem dL_law_18 : decode code 18 = .ok (.iload_n 3, 1) := by decide +kernel
theorem dL_law_19 : decode code 19 = .ok (.aload_n 0, 1) := by decide +kernel
theorem dL_law_20 : decode code 20 = .ok (.arraylength, 1) := by decide +kernel
theorem dL_law_21 : decode code 21 = .ok (.bipush 6, 2) := by decide +kernel
theorem dL_law_23 : decode code 23 = .ok (.isub, 1) := by decide +kernel
theorem dL_law_24 : decode code 24 = .ok (.if_icmp .gt 1687, 3) := by decide +kernel
theorem dL_law_27 : decode code 27 = .ok (.aload_n 0, 1) := by decide +kernel
theorem dL_law_28 : decode code 28 = .ok (.iload_n 3, 1) := by decide +kernel
theorem dL_law_29 : decode code 29 = .ok (.iaload, 1) := by decide +kernel
theorem dL_law_30 : decode code 30 = .ok (.bipush 63, 2) := by decide +kernel
theorem dL_law_32 : decode code 32 = .ok (.iand, 1) := by decide +kernel
theorem dL_law_33 : decode code 33 = .ok (.tableswitch 1672 0 33 #[151, 214, 237, 270, 293, 326, 369, 402, 455, 498, 551, 631, 701, 754, 807, 867, 890, 923, 946, 995, 1038, 1071, 1141, 1194, 1247, 1316, 1385, 1418, 1451, 1494, 1543, 1603, 1626, 1649], 151) := by decide +kernel
theorem dL_law_184 : decode code 184 = .ok (.aload_n 1, 1) := by decide +kernel
theorem dL_law_185 : decode code 185 = .ok (.aload_n 0, 1) := by decide +kernel
theorem dL_law_186 : decode code 186 = .ok (.iload_n 3, 1) := by decide +kernel
theorem dL_law_187 : decode code 187 = .ok (.iconst 1, 1) := by decide +kernel
theorem dL_law_188 : decode code 188 = .ok (.iadd, 1) := by decide +kernel
theorem dL_law_189 : decode code 189 = .ok (.iaload, 1) := by decide +kernel
theorem dL_law_190 : decode code 190 = .ok (.aload_n 0, 1) := by decide +kernel
theorem dL_law_191 : decode code 191 = .ok (.iload_n 3, 1) := by decide +kernel
theorem dL_law_192 : decode code 192 = .ok (.iconst 2, 1) := by decide +kernel
theorem dL_law_193 : decode code 193 = .ok (.iadd, 1) := by decide +kernel
theorem dL_law_194 : decode code 194 = .ok (.iaload, 1) := by decide +kernel
theorem dL_law_195 : decode code 195 = .ok (.aload_n 0, 1) := by decide +kernel
theorem dL_law_196 : decode code 196 = .ok (.iload_n 3, 1) := by decide +kernel
theorem dL_law_197 : decode code 197 = .ok (.iconst 3, 1) := by decide +kernel
theorem dL_law_198 : decode code 198 = .ok (.iadd, 1) := by decide +kernel
theorem dL_law_199 : decode code 199 = .ok (.iaload, 1) := by decide +kernel
theorem dL_law_200 : decode code 200 = .ok (.aload_n 0, 1) := by decide +kernel
theorem dL_law_201 : decode code 201 = .ok (.iload_n 3, 1) := by decide +kernel
theorem dL_law_202 : decode code 202 = .ok (.iconst 4, 1) := by decide +kernel
theorem dL_law_203 : decode code 203 = .ok (.iadd, 1) := by decide +kernel
theorem dL_law_204 : decode code 204 = .ok (.iaload, 1) := by decide +kernel
theorem dL_law_205 : decode code 205 = .ok (.aload_n 0, 1) := by decide +kernel
theorem dL_law_206 : decode code 206 = .ok (.iload_n 3, 1) := by decide +kernel
theorem dL_law_207 : decode code 207 = .ok (.iconst 5, 1) := by decide +kernel
theorem dL_law_208 : decode code 208 = .ok (.iadd, 1) := by decide +kernel
theorem dL_law_209 : decode code 209 = .ok (.iaload, 1) := by decide +kernel
theorem dL_law_210 : decode code 210 = .ok (.invokevirtual 13, 3) := by decide +kernel
theorem dL_law_213 : decode code 213 = .ok (.aload_n 2, 1) := by decide +kernel
theorem dL_law_214 : decode code 214 = .ok (.aload_n 0, 1) := by decide +kernel
theorem dL_law_215 : decode code 215 = .ok (.iload_n 3, 1) := by decide +kernel
theorem dL_law_216 : decode code 216 = .ok (.iconst 1, 1) := by decide +kernel
theorem dL_law_217 : decode code 217 = .ok (.iadd, 1) := by decide +kernel
theorem dL_law_218 : decode code 218 = .ok (.iaload, 1) := by decide +kernel
theorem dL_law_219 : decode code 219 = .ok (.aload_n 0, 1) := by decide +kernel
theorem dL_law_220 : decode code 220 = .ok (.iload_n 3, 1) := by decide +kernel
theorem dL_law_221 : decode code 221 = .ok (.iconst 2, 1) := by decide +kernel
theorem dL_law_222 : decode code 222 = .ok (.iadd, 1) := by decide +kernel
theorem dL_law_223 : decode code 223 = .ok (.iaload, 1) := by decide +kernel
theorem dL_law_224 : decode code 224 = .ok (.aload_n 0, 1) := by decide +kernel
theorem dL_law_225 : decode code 225 = .ok (.iload_n 3, 1) := by decide +kernel
theorem dL_law_226 : decode code 226 = .ok (.iconst 3, 1) := by decide +kernel
theorem dL_law_227 : decode code 227 = .ok (.iadd, 1) := by decide +kernel
theorem dL_law_228 : decode code 228 = .ok (.iaload, 1) := by decide +kernel
theorem dL_law_229 : decode code 229 = .ok (.aload_n 0, 1) := by decide +kernel
theorem dL_law_230 : decode code 230 = .ok (.iload_n 3, 1) := by decide +kernel
theorem dL_law_231 : decode code 231 = .ok (.iconst 4, 1) := by decide +kernel
theorem dL_law_232 : decode code 232 = .ok (.iadd, 1) := by decide +kernel
theorem dL_law_233 : decode code 233 = .ok (.iaload, 1) := by decide +kernel
theorem dL_law_234 : decode code 234 = .ok (.aload_n 0, 1) := by decide +kernel
theorem dL_law_235 : decode code 235 = .ok (.iload_n 3, 1) := by decide +kernel
theorem dL_law_236 : decode code 236 = .ok (.iconst 5, 1) := by decide +kernel
theorem dL_law_237 : decode code 237 = .ok (.iadd, 1) := by decide +kernel
theorem dL_law_238 : decode code 238 = .ok (.iaload, 1) := by decide +kernel
theorem dL_law_239 : decode code 239 = .ok (.invokevirtual 17, 3) := by decide +kernel
theorem dL_law_242 : decode code 242 = .ok (.if_icmp .eq 1463, 3) := by decide +kernel
theorem dL_law_245 : decode code 245 = .ok (.iconst 0, 1) := by decide +kernel
theorem dL_law_246 : decode code 246 = .ok (.ireturn, 1) := by decide +kernel
theorem dL_law_247 : decode code 247 = .ok (.aload_n 1, 1) := by decide +kernel
theorem dL_law_248 : decode code 248 = .ok (.aload_n 0, 1) := by decide +kernel
theorem dL_law_249 : decode code 249 = .ok (.iload_n 3, 1) := by decide +kernel
theorem dL_law_250 : decode code 250 = .ok (.iconst 1, 1) := by decide +kernel
theorem dL_law_251 : decode code 251 = .ok (.iadd, 1) := by decide +kernel
theorem dL_law_252 : decode code 252 = .ok (.iaload, 1) := by decide +kernel
theorem dL_law_253 : decode code 253 = .ok (.invokevirtual 18, 3) := by decide +kernel
theorem dL_law_256 : decode code 256 = .ok (.aload_n 2, 1) := by decide +kernel
theorem dL_law_257 : decode code 257 = .ok (.aload_n 0, 1) := by decide +kernel
theorem dL_law_258 : decode code 258 = .ok (.iload_n 3, 1) := by decide +kernel
theorem dL_law_259 : decode code 259 = .ok (.iconst 1, 1) := by decide +kernel
theorem dL_law_260 : decode code 260 = .ok (.iadd, 1) := by decide +kernel
theorem dL_law_261 : decode code 261 = .ok (.iaload, 1) := by decide +kernel
theorem dL_law_262 : decode code 262 = .ok (.invokevirtual 22, 3) := by decide +kernel
theorem dL_law_265 : decode code 265 = .ok (.if_icmp .eq 1440, 3) := by decide +kernel
theorem dL_law_268 : decode code 268 = .ok (.iconst 0, 1) := by decide +kernel
theorem dL_law_269 : decode code 269 = .ok (.ireturn, 1) := by decide +kernel
theorem dL_law_270 : decode code 270 = .ok (.aload_n 1, 1) := by decide +kernel
theorem dL_law_271 : decode code 271 = .ok (.aload_n 0, 1) := by decide +kernel
theorem dL_law_272 : decode code 272 = .ok (.iload_n 3, 1) := by decide +kernel
theorem dL_law_273 : decode code 273 = .ok (.iconst 1, 1) := by decide +kernel
theorem dL_law_274 : decode code 274 = .ok (.iadd, 1) := by decide +kernel
theorem dL_law_275 : decode code 275 = .ok (.iaload, 1) := by decide +kernel
theorem dL_law_276 : decode code 276 = .ok (.aload_n 0, 1) := by decide +kernel
theorem dL_law_277 : decode code 277 = .ok (.iload_n 3, 1) := by decide +kernel
theorem dL_law_278 : decode code 278 = .ok (.iconst 2, 1) := by decide +kernel
theorem dL_law_279 : decode code 279 = .ok (.iadd, 1) := by decide +kernel
theorem dL_law_280 : decode code 280 = .ok (.iaload, 1) := by decide +kernel
theorem dL_law_281 : decode code 281 = .ok (.invokevirtual 23, 3) := by decide +kernel
theorem dL_law_284 : decode code 284 = .ok (.aload_n 2, 1) := by decide +kernel
theorem dL_law_285 : decode code 285 = .ok (.aload_n 0, 1) := by decide +kernel
theorem dL_law_286 : decode code 286 = .ok (.iload_n 3, 1) := by decide +kernel
theorem dL_law_287 : decode code 287 = .ok (.iconst 1, 1) := by decide +kernel
theorem dL_law_288 : decode code 288 = .ok (.iadd, 1) := by decide +kernel
theorem dL_law_289 : decode code 289 = .ok (.iaload, 1) := by decide +kernel
theorem dL_law_290 : decode code 290 = .ok (.aload_n 0, 1) := by decide +kernel
theorem dL_law_291 : decode code 291 = .ok (.iload_n 3, 1) := by decide +kernel
theorem dL_law_292 : decode code 292 = .ok (.iconst 2, 1) := by decide +kernel
theorem dL_law_293 : decode code 293 = .ok (.iadd, 1) := by decide +kernel
theorem dL_law_294 : decode code 294 = .ok (.iaload, 1) := by decide +kernel
theorem dL_law_295 : decode code 295 = .ok (.invokevirtual 27, 3) := by decide +kernel
theorem dL_law_298 : decode code 298 = .ok (.if_icmp .eq 1407, 3) := by decide +kernel
theorem dL_law_301 : decode code 301 = .ok (.iconst 0, 1) := by decide +kernel
theorem dL_law_302 : decode code 302 = .ok (.ireturn, 1) := by decide +kernel
theorem dL_law_303 : decode code 303 = .ok (.aload_n 1, 1) := by decide +kernel
theorem dL_law_304 : decode code 304 = .ok (.aload_n 0, 1) := by decide +kernel
theorem dL_law_305 : decode code 305 = .ok (.iload_n 3, 1) := by decide +kernel
theorem dL_law_306 : decode code 306 = .ok (.iconst 1, 1) := by decide +kernel
theorem dL_law_307 : decode code 307 = .ok (.iadd, 1) := by decide +kernel
theorem dL_law_308 : decode code 308 = .ok (.iaload, 1) := by decide +kernel
theorem dL_law_309 : decode code 309 = .ok (.invokevirtual 28, 3) := by decide +kernel
theorem dL_law_312 : decode code 312 = .ok (.aload_n 2, 1) := by decide +kernel
theorem dL_law_313 : decode code 313 = .ok (.aload_n 0, 1) := by decide +kernel
theorem dL_law_314 : decode code 314 = .ok (.iload_n 3, 1) := by decide +kernel
theorem dL_law_315 : decode code 315 = .ok (.iconst 1, 1) := by decide +kernel
theorem dL_law_316 : decode code 316 = .ok (.iadd, 1) := by decide +kernel
theorem dL_law_317 : decode code 317 = .ok (.iaload, 1) := by decide +kernel
theorem dL_law_318 : decode code 318 = .ok (.invokevirtual 31, 3) := by decide +kernel
theorem dL_law_321 : decode code 321 = .ok (.if_icmp .eq 1384, 3) := by decide +kernel
theorem dL_law_324 : decode code 324 = .ok (.iconst 0, 1) := by decide +kernel
theorem dL_law_325 : decode code 325 = .ok (.ireturn, 1) := by decide +kernel
theorem dL_law_326 : decode code 326 = .ok (.aload_n 1, 1) := by decide +kernel
theorem dL_law_327 : decode code 327 = .ok (.aload_n 0, 1) := by decide +kernel
theorem dL_law_328 : decode code 328 = .ok (.iload_n 3, 1) := by decide +kernel
theorem dL_law_329 : decode code 329 = .ok (.iconst 1, 1) := by decide +kernel
theorem dL_law_330 : decode code 330 = .ok (.iadd, 1) := by decide +kernel
theorem dL_law_331 : decode code 331 = .ok (.iaload, 1) := by decide +kernel
theorem dL_law_332 : decode code 332 = .ok (.aload_n 0, 1) := by decide +kernel
theorem dL_law_333 : decode code 333 = .ok (.iload_n 3, 1) := by decide +kernel
theorem dL_law_334 : decode code 334 = .ok (.iconst 2, 1) := by decide +kernel
theorem dL_law_335 : decode code 335 = .ok (.iadd, 1) := by decide +kernel
theorem dL_law_336 : decode code 336 = .ok (.iaload, 1) := by decide +kernel
theorem dL_law_337 : decode code 337 = .ok (.invokevirtual 32, 3) := by decide +kernel
theorem dL_law_340 : decode code 340 = .ok (.aload_n 2, 1) := by decide +kernel
theorem dL_law_341 : decode code 341 = .ok (.aload_n 0, 1) := by decide +kernel
theorem dL_law_342 : decode code 342 = .ok (.iload_n 3, 1) := by decide +kernel
theorem dL_law_343 : decode code 343 = .ok (.iconst 1, 1) := by decide +kernel
theorem dL_law_344 : decode code 344 = .ok (.iadd, 1) := by decide +kernel
theorem dL_law_345 : decode code 345 = .ok (.iaload, 1) := by decide +kernel
theorem dL_law_346 : decode code 346 = .ok (.aload_n 0, 1) := by decide +kernel
theorem dL_law_347 : decode code 347 = .ok (.iload_n 3, 1) := by decide +kernel
theorem dL_law_348 : decode code 348 = .ok (.iconst 2, 1) := by decide +kernel
theorem dL_law_349 : decode code 349 = .ok (.iadd, 1) := by decide +kernel
theorem dL_law_350 : decode code 350 = .ok (.iaload, 1) := by decide +kernel
theorem dL_law_351 : decode code 351 = .ok (.invokevirtual 35, 3) := by decide +kernel
theorem dL_law_354 : decode code 354 = .ok (.if_icmp .eq 1351, 3) := by decide +kernel
theorem dL_law_357 : decode code 357 = .ok (.iconst 0, 1) := by decide +kernel
theorem dL_law_358 : decode code 358 = .ok (.ireturn, 1) := by decide +kernel
theorem dL_law_359 : decode code 359 = .ok (.aload_n 1, 1) := by decide +kernel
theorem dL_law_360 : decode code 360 = .ok (.aload_n 0, 1) := by decide +kernel
theorem dL_law_361 : decode code 361 = .ok (.iload_n 3, 1) := by decide +kernel
theorem dL_law_362 : decode code 362 = .ok (.iconst 1, 1) := by decide +kernel
theorem dL_law_363 : decode code 363 = .ok (.iadd, 1) := by decide +kernel
theorem dL_law_364 : decode code 364 = .ok (.iaload, 1) := by decide +kernel
theorem dL_law_365 : decode code 365 = .ok (.aload_n 0, 1) := by decide +kernel
theorem dL_law_366 : decode code 366 = .ok (.iload_n 3, 1) := by decide +kernel
theorem dL_law_367 : decode code 367 = .ok (.iconst 2, 1) := by decide +kernel
theorem dL_law_368 : decode code 368 = .ok (.iadd, 1) := by decide +kernel
theorem dL_law_369 : decode code 369 = .ok (.iaload, 1) := by decide +kernel
theorem dL_law_370 : decode code 370 = .ok (.aload_n 0, 1) := by decide +kernel
theorem dL_law_371 : decode code 371 = .ok (.iload_n 3, 1) := by decide +kernel
theorem dL_law_372 : decode code 372 = .ok (.iconst 3, 1) := by decide +kernel
theorem dL_law_373 : decode code 373 = .ok (.iadd, 1) := by decide +kernel
theorem dL_law_374 : decode code 374 = .ok (.iaload, 1) := by decide +kernel
theorem dL_law_375 : decode code 375 = .ok (.invokevirtual 36, 3) := by decide +kernel
theorem dL_law_378 : decode code 378 = .ok (.aload_n 2, 1) := by decide +kernel
theorem dL_law_379 : decode code 379 = .ok (.aload_n 0, 1) := by decide +kernel
theorem dL_law_380 : decode code 380 = .ok (.iload_n 3, 1) := by decide +kernel
theorem dL_law_381 : decode code 381 = .ok (.iconst 1, 1) := by decide +kernel
theorem dL_law_382 : decode code 382 = .ok (.iadd, 1) := by decide +kernel
theorem dL_law_383 : decode code 383 = .ok (.iaload, 1) := by decide +kernel
theorem dL_law_384 : decode code 384 = .ok (.aload_n 0, 1) := by decide +kernel
theorem dL_law_385 : decode code 385 = .ok (.iload_n 3, 1) := by decide +kernel
theorem dL_law_386 : decode code 386 = .ok (.iconst 2, 1) := by decide +kernel
theorem dL_law_387 : decode code 387 = .ok (.iadd, 1) := by decide +kernel
theorem dL_law_388 : decode code 388 = .ok (.iaload, 1) := by decide +kernel
theorem dL_law_389 : decode code 389 = .ok (.aload_n 0, 1) := by decide +kernel
theorem dL_law_390 : decode code 390 = .ok (.iload_n 3, 1) := by decide +kernel
theorem dL_law_391 : decode code 391 = .ok (.iconst 3, 1) := by decide +kernel
theorem dL_law_392 : decode code 392 = .ok (.iadd, 1) := by decide +kernel
theorem dL_law_393 : decode code 393 = .ok (.iaload, 1) := by decide +kernel
theorem dL_law_394 : decode code 394 = .ok (.invokevirtual 40, 3) := by decide +kernel
theorem dL_law_397 : decode code 397 = .ok (.if_icmp .eq 1308, 3) := by decide +kernel
theorem dL_law_400 : decode code 400 = .ok (.iconst 0, 1) := by decide +kernel
theorem dL_law_401 : decode code 401 = .ok (.ireturn, 1) := by decide +kernel
theorem dL_law_402 : decode code 402 = .ok (.aload_n 1, 1) := by decide +kernel
theorem dL_law_403 : decode code 403 = .ok (.aload_n 0, 1) := by decide +kernel
theorem dL_law_404 : decode code 404 = .ok (.iload_n 3, 1) := by decide +kernel
theorem dL_law_405 : decode code 405 = .ok (.iconst 1, 1) := by decide +kernel
theorem dL_law_406 : decode code 406 = .ok (.iadd, 1) := by decide +kernel
theorem dL_law_407 : decode code 407 = .ok (.iaload, 1) := by decide +kernel
theorem dL_law_408 : decode code 408 = .ok (.aload_n 0, 1) := by decide +kernel
theorem dL_law_409 : decode code 409 = .ok (.iload_n 3, 1) := by decide +kernel
theorem dL_law_410 : decode code 410 = .ok (.iconst 2, 1) := by decide +kernel
theorem dL_law_411 : decode code 411 = .ok (.iadd, 1) := by decide +kernel
theorem dL_law_412 : decode code 412 = .ok (.iaload, 1) := by decide +kernel
theorem dL_law_413 : decode code 413 = .ok (.invokevirtual 41, 3) := by decide +kernel
theorem dL_law_416 : decode code 416 = .ok (.aload_n 2, 1) := by decide +kernel
theorem dL_law_417 : decode code 417 = .ok (.aload_n 0, 1) := by decide +kernel
theorem dL_law_418 : decode code 418 = .ok (.iload_n 3, 1) := by decide +kernel
theorem dL_law_419 : decode code 419 = .ok (.iconst 1, 1) := by decide +kernel
theorem dL_law_420 : decode code 420 = .ok (.iadd, 1) := by decide +kernel
theorem dL_law_421 : decode code 421 = .ok (.iaload, 1) := by decide +kernel
theorem dL_law_422 : decode code 422 = .ok (.aload_n 0, 1) := by decide +kernel
theorem dL_law_423 : decode code 423 = .ok (.iload_n 3, 1) := by decide +kernel
theorem dL_law_424 : decode code 424 = .ok (.iconst 2, 1) := by decide +kernel
theorem dL_law_425 : decode code 425 = .ok (.iadd, 1) := by decide +kernel
theorem dL_law_426 : decode code 426 = .ok (.iaload, 1) := by decide +kernel
theorem dL_law_427 : decode code 427 = .ok (.invokevirtual 44, 3) := by decide +kernel
theorem dL_law_430 : decode code 430 = .ok (.if_icmp .eq 1275, 3) := by decide +kernel
theorem dL_law_433 : decode code 433 = .ok (.iconst 0, 1) := by decide +kernel
theorem dL_law_434 : decode code 434 = .ok (.ireturn, 1) := by decide +kernel
theorem dL_law_435 : decode code 435 = .ok (.aload_n 1, 1) := by decide +kernel
theorem dL_law_436 : decode code 436 = .ok (.aload_n 0, 1) := by decide +kernel
theorem dL_law_437 : decode code 437 = .ok (.iload_n 3, 1) := by decide +kernel
theorem dL_law_438 : decode code 438 = .ok (.iconst 1, 1) := by decide +kernel
theorem dL_law_439 : decode code 439 = .ok (.iadd, 1) := by decide +kernel
theorem dL_law_440 : decode code 440 = .ok (.iaload, 1) := by decide +kernel
theorem dL_law_441 : decode code 441 = .ok (.aload_n 0, 1) := by decide +kernel
theorem dL_law_442 : decode code 442 = .ok (.iload_n 3, 1) := by decide +kernel
theorem dL_law_443 : decode code 443 = .ok (.iconst 2, 1) := by decide +kernel
theorem dL_law_444 : decode code 444 = .ok (.iadd, 1) := by decide +kernel
theorem dL_law_445 : decode code 445 = .ok (.iaload, 1) := by decide +kernel
theorem dL_law_446 : decode code 446 = .ok (.aload_n 0, 1) := by decide +kernel
theorem dL_law_447 : decode code 447 = .ok (.iload_n 3, 1) := by decide +kernel
theorem dL_law_448 : decode code 448 = .ok (.iconst 3, 1) := by decide +kernel
theorem dL_law_449 : decode code 449 = .ok (.iadd, 1) := by decide +kernel
theorem dL_law_450 : decode code 450 = .ok (.iaload, 1) := by decide +kernel
theorem dL_law_451 : decode code 451 = .ok (.aload_n 0, 1) := by decide +kernel
theorem dL_law_452 : decode code 452 = .ok (.iload_n 3, 1) := by decide +kernel
theorem dL_law_453 : decode code 453 = .ok (.iconst 4, 1) := by decide +kernel
theorem dL_law_454 : decode code 454 = .ok (.iadd, 1) := by decide +kernel
theorem dL_law_455 : decode code 455 = .ok (.iaload, 1) := by decide +kernel
theorem dL_law_456 : decode code 456 = .ok (.invokevirtual 45, 3) := by decide +kernel
theorem dL_law_459 : decode code 459 = .ok (.aload_n 2, 1) := by decide +kernel
theorem dL_law_460 : decode code 460 = .ok (.aload_n 0, 1) := by decide +kernel
theorem dL_law_461 : decode code 461 = .ok (.iload_n 3, 1) := by decide +kernel
theorem dL_law_462 : decode code 462 = .ok (.iconst 1, 1) := by decide +kernel
theorem dL_law_463 : decode code 463 = .ok (.iadd, 1) := by decide +kernel
theorem dL_law_464 : decode code 464 = .ok (.iaload, 1) := by decide +kernel
theorem dL_law_465 : decode code 465 = .ok (.aload_n 0, 1) := by decide +kernel
theorem dL_law_466 : decode code 466 = .ok (.iload_n 3, 1) := by decide +kernel
theorem dL_law_467 : decode code 467 = .ok (.iconst 2, 1) := by decide +kernel
theorem dL_law_468 : decode code 468 = .ok (.iadd, 1) := by decide +kernel
theorem dL_law_469 : decode code 469 = .ok (.iaload, 1) := by decide +kernel
theorem dL_law_470 : decode code 470 = .ok (.aload_n 0, 1) := by decide +kernel
theorem dL_law_471 : decode code 471 = .ok (.iload_n 3, 1) := by decide +kernel
theorem dL_law_472 : decode code 472 = .ok (.iconst 3, 1) := by decide +kernel
theorem dL_law_473 : decode code 473 = .ok (.iadd, 1) := by decide +kernel
theorem dL_law_474 : decode code 474 = .ok (.iaload, 1) := by decide +kernel
theorem dL_law_475 : decode code 475 = .ok (.aload_n 0, 1) := by decide +kernel
theorem dL_law_476 : decode code 476 = .ok (.iload_n 3, 1) := by decide +kernel
theorem dL_law_477 : decode code 477 = .ok (.iconst 4, 1) := by decide +kernel
theorem dL_law_478 : decode code 478 = .ok (.iadd, 1) := by decide +kernel
theorem dL_law_479 : decode code 479 = .ok (.iaload, 1) := by decide +kernel
theorem dL_law_480 : decode code 480 = .ok (.invokevirtual 49, 3) := by decide +kernel
theorem dL_law_483 : decode code 483 = .ok (.if_icmp .eq 1222, 3) := by decide +kernel
theorem dL_law_486 : decode code 486 = .ok (.iconst 0, 1) := by decide +kernel
theorem dL_law_487 : decode code 487 = .ok (.ireturn, 1) := by decide +kernel
theorem dL_law_488 : decode code 488 = .ok (.aload_n 1, 1) := by decide +kernel
theorem dL_law_489 : decode code 489 = .ok (.aload_n 0, 1) := by decide +kernel
theorem dL_law_490 : decode code 490 = .ok (.iload_n 3, 1) := by decide +kernel
theorem dL_law_491 : decode code 491 = .ok (.iconst 1, 1) := by decide +kernel
theorem dL_law_492 : decode code 492 = .ok (.iadd, 1) := by decide +kernel
theorem dL_law_493 : decode code 493 = .ok (.iaload, 1) := by decide +kernel
theorem dL_law_494 : decode code 494 = .ok (.aload_n 0, 1) := by decide +kernel
theorem dL_law_495 : decode code 495 = .ok (.iload_n 3, 1) := by decide +kernel
theorem dL_law_496 : decode code 496 = .ok (.iconst 2, 1) := by decide +kernel
theorem dL_law_497 : decode code 497 = .ok (.iadd, 1) := by decide +kernel
theorem dL_law_498 : decode code 498 = .ok (.iaload, 1) := by decide +kernel
theorem dL_law_499 : decode code 499 = .ok (.aload_n 0, 1) := by decide +kernel
theorem dL_law_500 : decode code 500 = .ok (.iload_n 3, 1) := by decide +kernel
theorem dL_law_501 : decode code 501 = .ok (.iconst 3, 1) := by decide +kernel
theorem dL_law_502 : decode code 502 = .ok (.iadd, 1) := by decide +kernel
theorem dL_law_503 : decode code 503 = .ok (.iaload, 1) := by decide +kernel
theorem dL_law_504 : decode code 504 = .ok (.invokevirtual 50, 3) := by decide +kernel
theorem dL_law_507 : decode code 507 = .ok (.aload_n 2, 1) := by decide +kernel
theorem dL_law_508 : decode code 508 = .ok (.aload_n 0, 1) := by decide +kernel
theorem dL_law_509 : decode code 509 = .ok (.iload_n 3, 1) := by decide +kernel
theorem dL_law_510 : decode code 510 = .ok (.iconst 1, 1) := by decide +kernel
theorem dL_law_511 : decode code 511 = .ok (.iadd, 1) := by decide +kernel
theorem dL_law_512 : decode code 512 = .ok (.iaload, 1) := by decide +kernel
theorem dL_law_513 : decode code 513 = .ok (.aload_n 0, 1) := by decide +kernel
theorem dL_law_514 : decode code 514 = .ok (.iload_n 3, 1) := by decide +kernel
theorem dL_law_515 : decode code 515 = .ok (.iconst 2, 1) := by decide +kernel
theorem dL_law_516 : decode code 516 = .ok (.iadd, 1) := by decide +kernel
theorem dL_law_517 : decode code 517 = .ok (.iaload, 1) := by decide +kernel
theorem dL_law_518 : decode code 518 = .ok (.aload_n 0, 1) := by decide +kernel
theorem dL_law_519 : decode code 519 = .ok (.iload_n 3, 1) := by decide +kernel
theorem dL_law_520 : decode code 520 = .ok (.iconst 3, 1) := by decide +kernel
theorem dL_law_521 : decode code 521 = .ok (.iadd, 1) := by decide +kernel
theorem dL_law_522 : decode code 522 = .ok (.iaload, 1) := by decide +kernel
theorem dL_law_523 : decode code 523 = .ok (.invokevirtual 53, 3) := by decide +kernel
theorem dL_law_526 : decode code 526 = .ok (.if_icmp .eq 1179, 3) := by decide +kernel
theorem dL_law_529 : decode code 529 = .ok (.iconst 0, 1) := by decide +kernel
theorem dL_law_530 : decode code 530 = .ok (.ireturn, 1) := by decide +kernel
theorem dL_law_531 : decode code 531 = .ok (.aload_n 1, 1) := by decide +kernel
theorem dL_law_532 : decode code 532 = .ok (.aload_n 0, 1) := by decide +kernel
theorem dL_law_533 : decode code 533 = .ok (.iload_n 3, 1) := by decide +kernel
theorem dL_law_534 : decode code 534 = .ok (.iconst 1, 1) := by decide +kernel
theorem dL_law_535 : decode code 535 = .ok (.iadd, 1) := by decide +kernel
theorem dL_law_536 : decode code 536 = .ok (.iaload, 1) := by decide +kernel
theorem dL_law_537 : decode code 537 = .ok (.aload_n 0, 1) := by decide +kernel
theorem dL_law_538 : decode code 538 = .ok (.iload_n 3, 1) := by decide +kernel
theorem dL_law_539 : decode code 539 = .ok (.iconst 2, 1) := by decide +kernel
theorem dL_law_540 : decode code 540 = .ok (.iadd, 1) := by decide +kernel
theorem dL_law_541 : decode code 541 = .ok (.iaload, 1) := by decide +kernel
theorem dL_law_542 : decode code 542 = .ok (.aload_n 0, 1) := by decide +kernel
theorem dL_law_543 : decode code 543 = .ok (.iload_n 3, 1) := by decide +kernel
theorem dL_law_544 : decode code 544 = .ok (.iconst 3, 1) := by decide +kernel
theorem dL_law_545 : decode code 545 = .ok (.iadd, 1) := by decide +kernel
theorem dL_law_546 : decode code 546 = .ok (.iaload, 1) := by decide +kernel
theorem dL_law_547 : decode code 547 = .ok (.aload_n 0, 1) := by decide +kernel
theorem dL_law_548 : decode code 548 = .ok (.iload_n 3, 1) := by decide +kernel
theorem dL_law_549 : decode code 549 = .ok (.iconst 4, 1) := by decide +kernel
theorem dL_law_550 : decode code 550 = .ok (.iadd, 1) := by decide +kernel
theorem dL_law_551 : decode code 551 = .ok (.iaload, 1) := by decide +kernel
theorem dL_law_552 : decode code 552 = .ok (.invokevirtual 54, 3) := by decide +kernel
theorem dL_law_555 : decode code 555 = .ok (.aload_n 2, 1) := by decide +kernel
theorem dL_law_556 : decode code 556 = .ok (.aload_n 0, 1) := by decide +kernel
theorem dL_law_557 : decode code 557 = .ok (.iload_n 3, 1) := by decide +kernel
theorem dL_law_558 : decode code 558 = .ok (.iconst 1, 1) := by decide +kernel
theorem dL_law_559 : decode code 559 = .ok (.iadd, 1) := by decide +kernel
theorem dL_law_560 : decode code 560 = .ok (.iaload, 1) := by decide +kernel
theorem dL_law_561 : decode code 561 = .ok (.aload_n 0, 1) := by decide +kernel
theorem dL_law_562 : decode code 562 = .ok (.iload_n 3, 1) := by decide +kernel
theorem dL_law_563 : decode code 563 = .ok (.iconst 2, 1) := by decide +kernel
theorem dL_law_564 : decode code 564 = .ok (.iadd, 1) := by decide +kernel
theorem dL_law_565 : decode code 565 = .ok (.iaload, 1) := by decide +kernel
theorem dL_law_566 : decode code 566 = .ok (.aload_n 0, 1) := by decide +kernel
theorem dL_law_567 : decode code 567 = .ok (.iload_n 3, 1) := by decide +kernel
theorem dL_law_568 : decode code 568 = .ok (.iconst 3, 1) := by decide +kernel
theorem dL_law_569 : decode code 569 = .ok (.iadd, 1) := by decide +kernel
theorem dL_law_570 : decode code 570 = .ok (.iaload, 1) := by decide +kernel
theorem dL_law_571 : decode code 571 = .ok (.aload_n 0, 1) := by decide +kernel
theorem dL_law_572 : decode code 572 = .ok (.iload_n 3, 1) := by decide +kernel
theorem dL_law_573 : decode code 573 = .ok (.iconst 4, 1) := by decide +kernel
theorem dL_law_574 : decode code 574 = .ok (.iadd, 1) := by decide +kernel
theorem dL_law_575 : decode code 575 = .ok (.iaload, 1) := by decide +kernel
theorem dL_law_576 : decode code 576 = .ok (.invokevirtual 57, 3) := by decide +kernel
theorem dL_law_579 : decode code 579 = .ok (.if_icmp .eq 1126, 3) := by decide +kernel
theorem dL_law_582 : decode code 582 = .ok (.iconst 0, 1) := by decide +kernel
theorem dL_law_583 : decode code 583 = .ok (.ireturn, 1) := by decide +kernel
theorem dL_law_584 : decode code 584 = .ok (.aload_n 1, 1) := by decide +kernel
theorem dL_law_585 : decode code 585 = .ok (.aload_n 0, 1) := by decide +kernel
theorem dL_law_586 : decode code 586 = .ok (.iload_n 3, 1) := by decide +kernel
theorem dL_law_587 : decode code 587 = .ok (.iconst 1, 1) := by decide +kernel
theorem dL_law_588 : decode code 588 = .ok (.iadd, 1) := by decide +kernel
theorem dL_law_589 : decode code 589 = .ok (.iaload, 1) := by decide +kernel
theorem dL_law_590 : decode code 590 = .ok (.aload_n 0, 1) := by decide +kernel
theorem dL_law_591 : decode code 591 = .ok (.iload_n 3, 1) := by decide +kernel
theorem dL_law_592 : decode code 592 = .ok (.iconst 2, 1) := by decide +kernel
theorem dL_law_593 : decode code 593 = .ok (.iadd, 1) := by decide +kernel
theorem dL_law_594 : decode code 594 = .ok (.iaload, 1) := by decide +kernel
theorem dL_law_595 : decode code 595 = .ok (.aload_n 0, 1) := by decide +kernel
theorem dL_law_596 : decode code 596 = .ok (.iload_n 3, 1) := by decide +kernel
theorem dL_law_597 : decode code 597 = .ok (.iconst 3, 1) := by decide +kernel
theorem dL_law_598 : decode code 598 = .ok (.iadd, 1) := by decide +kernel
theorem dL_law_599 : decode code 599 = .ok (.iaload, 1) := by decide +kernel
theorem dL_law_600 : decode code 600 = .ok (.aload_n 0, 1) := by decide +kernel
theorem dL_law_601 : decode code 601 = .ok (.iload_n 3, 1) := by decide +kernel
theorem dL_law_602 : decode code 602 = .ok (.iconst 4, 1) := by decide +kernel
theorem dL_law_603 : decode code 603 = .ok (.iadd, 1) := by decide +kernel
theorem dL_law_604 : decode code 604 = .ok (.iaload, 1) := by decide +kernel
theorem dL_law_605 : decode code 605 = .ok (.aload_n 0, 1) := by decide +kernel
theorem dL_law_606 : decode code 606 = .ok (.iload_n 3, 1) := by decide +kernel
theorem dL_law_607 : decode code 607 = .ok (.iconst 5, 1) := by decide +kernel
theorem dL_law_608 : decode code 608 = .ok (.iadd, 1) := by decide +kernel
theorem dL_law_609 : decode code 609 = .ok (.iaload, 1) := by decide +kernel
theorem dL_law_610 : decode code 610 = .ok (.ifCond .eq 7, 3) := by decide +kernel
theorem dL_law_613 : decode code 613 = .ok (.iconst 1, 1) := by decide +kernel
theorem dL_law_614 : decode code 614 = .ok (.goto 4, 3) := by decide +kernel
theorem dL_law_617 : decode code 617 = .ok (.iconst 0, 1) := by decide +kernel
theorem dL_law_618 : decode code 618 = .ok (.invokevirtual 58, 3) := by decide +kernel
theorem dL_law_621 : decode code 621 = .ok (.aload_n 2, 1) := by decide +kernel
theorem dL_law_622 : decode code 622 = .ok (.aload_n 0, 1) := by decide +kernel
theorem dL_law_623 : decode code 623 = .ok (.iload_n 3, 1) := by decide +kernel
theorem dL_law_624 : decode code 624 = .ok (.iconst 1, 1) := by decide +kernel
theorem dL_law_625 : decode code 625 = .ok (.iadd, 1) := by decide +kernel
theorem dL_law_626 : decode code 626 = .ok (.iaload, 1) := by decide +kernel
theorem dL_law_627 : decode code 627 = .ok (.aload_n 0, 1) := by decide +kernel
theorem dL_law_628 : decode code 628 = .ok (.iload_n 3, 1) := by decide +kernel
theorem dL_law_629 : decode code 629 = .ok (.iconst 2, 1) := by decide +kernel
theorem dL_law_630 : decode code 630 = .ok (.iadd, 1) := by decide +kernel
theorem dL_law_631 : decode code 631 = .ok (.iaload, 1) := by decide +kernel
theorem dL_law_632 : decode code 632 = .ok (.aload_n 0, 1) := by decide +kernel
theorem dL_law_633 : decode code 633 = .ok (.iload_n 3, 1) := by decide +kernel
theorem dL_law_634 : decode code 634 = .ok (.iconst 3, 1) := by decide +kernel
theorem dL_law_635 : decode code 635 = .ok (.iadd, 1) := by decide +kernel
theorem dL_law_636 : decode code 636 = .ok (.iaload, 1) := by decide +kernel
theorem dL_law_637 : decode code 637 = .ok (.aload_n 0, 1) := by decide +kernel
theorem dL_law_638 : decode code 638 = .ok (.iload_n 3, 1) := by decide +kernel
theorem dL_law_639 : decode code 639 = .ok (.iconst 4, 1) := by decide +kernel
theorem dL_law_640 : decode code 640 = .ok (.iadd, 1) := by decide +kernel
theorem dL_law_641 : decode code 641 = .ok (.iaload, 1) := by decide +kernel
theorem dL_law_642 : decode code 642 = .ok (.aload_n 0, 1) := by decide +kernel
theorem dL_law_643 : decode code 643 = .ok (.iload_n 3, 1) := by decide +kernel
theorem dL_law_644 : decode code 644 = .ok (.iconst 5, 1) := by decide +kernel
theorem dL_law_645 : decode code 645 = .ok (.iadd, 1) := by decide +kernel
theorem dL_law_646 : decode code 646 = .ok (.iaload, 1) := by decide +kernel
theorem dL_law_647 : decode code 647 = .ok (.ifCond .eq 7, 3) := by decide +kernel
theorem dL_law_650 : decode code 650 = .ok (.iconst 1, 1) := by decide +kernel
theorem dL_law_651 : decode code 651 = .ok (.goto 4, 3) := by decide +kernel
theorem dL_law_654 : decode code 654 = .ok (.iconst 0, 1) := by decide +kernel
theorem dL_law_655 : decode code 655 = .ok (.invokevirtual 62, 3) := by decide +kernel
theorem dL_law_658 : decode code 658 = .ok (.lcmp, 1) := by decide +kernel
theorem dL_law_659 : decode code 659 = .ok (.ifCond .eq 1046, 3) := by decide +kernel
theorem dL_law_662 : decode code 662 = .ok (.iconst 0, 1) := by decide +kernel
theorem dL_law_663 : decode code 663 = .ok (.ireturn, 1) := by decide +kernel
theorem dL_law_664 : decode code 664 = .ok (.aload_n 1, 1) := by decide +kernel
theorem dL_law_665 : decode code 665 = .ok (.aload_n 0, 1) := by decide +kernel
theorem dL_law_666 : decode code 666 = .ok (.iload_n 3, 1) := by decide +kernel
theorem dL_law_667 : decode code 667 = .ok (.iconst 1, 1) := by decide +kernel
theorem dL_law_668 : decode code 668 = .ok (.iadd, 1) := by decide +kernel
theorem dL_law_669 : decode code 669 = .ok (.iaload, 1) := by decide +kernel
theorem dL_law_670 : decode code 670 = .ok (.aload_n 0, 1) := by decide +kernel
theorem dL_law_671 : decode code 671 = .ok (.iload_n 3, 1) := by decide +kernel
theorem dL_law_672 : decode code 672 = .ok (.iconst 2, 1) := by decide +kernel
theorem dL_law_673 : decode code 673 = .ok (.iadd, 1) := by decide +kernel
theorem dL_law_674 : decode code 674 = .ok (.iaload, 1) := by decide +kernel
theorem dL_law_675 : decode code 675 = .ok (.aload_n 0, 1) := by decide +kernel
theorem dL_law_676 : decode code 676 = .ok (.iload_n 3, 1) := by decide +kernel
theorem dL_law_677 : decode code 677 = .ok (.iconst 3, 1) := by decide +kernel
theorem dL_law_678 : decode code 678 = .ok (.iadd, 1) := by decide +kernel
theorem dL_law_679 : decode code 679 = .ok (.iaload, 1) := by decide +kernel
theorem dL_law_680 : decode code 680 = .ok (.aload_n 0, 1) := by decide +kernel
theorem dL_law_681 : decode code 681 = .ok (.iload_n 3, 1) := by decide +kernel
theorem dL_law_682 : decode code 682 = .ok (.iconst 4, 1) := by decide +kernel
theorem dL_law_683 : decode code 683 = .ok (.iadd, 1) := by decide +kernel
theorem dL_law_684 : decode code 684 = .ok (.iaload, 1) := by decide +kernel
theorem dL_law_685 : decode code 685 = .ok (.ifCond .eq 7, 3) := by decide +kernel
theorem dL_law_688 : decode code 688 = .ok (.iconst 1, 1) := by decide +kernel
theorem dL_law_689 : decode code 689 = .ok (.goto 4, 3) := by decide +kernel
theorem dL_law_692 : decode code 692 = .ok (.iconst 0, 1) := by decide +kernel
theorem dL_law_693 : decode code 693 = .ok (.invokevirtual 63, 3) := by decide +kernel
theorem dL_law_696 : decode code 696 = .ok (.aload_n 2, 1) := by decide +kernel
theorem dL_law_697 : decode code 697 = .ok (.aload_n 0, 1) := by decide +kernel
theorem dL_law_698 : decode code 698 = .ok (.iload_n 3, 1) := by decide +kernel
theorem dL_law_699 : decode code 699 = .ok (.iconst 1, 1) := by decide +kernel
theorem dL_law_700 : decode code 700 = .ok (.iadd, 1) := by decide +kernel
theorem dL_law_701 : decode code 701 = .ok (.iaload, 1) := by decide +kernel
theorem dL_law_702 : decode code 702 = .ok (.aload_n 0, 1) := by decide +kernel
theorem dL_law_703 : decode code 703 = .ok (.iload_n 3, 1) := by decide +kernel
theorem dL_law_704 : decode code 704 = .ok (.iconst 2, 1) := by decide +kernel
theorem dL_law_705 : decode code 705 = .ok (.iadd, 1) := by decide +kernel
theorem dL_law_706 : decode code 706 = .ok (.iaload, 1) := by decide +kernel
theorem dL_law_707 : decode code 707 = .ok (.aload_n 0, 1) := by decide +kernel
theorem dL_law_708 : decode code 708 = .ok (.iload_n 3, 1) := by decide +kernel
theorem dL_law_709 : decode code 709 = .ok (.iconst 3, 1) := by decide +kernel
theorem dL_law_710 : decode code 710 = .ok (.iadd, 1) := by decide +kernel
theorem dL_law_711 : decode code 711 = .ok (.iaload, 1) := by decide +kernel
theorem dL_law_712 : decode code 712 = .ok (.aload_n 0, 1) := by decide +kernel
theorem dL_law_713 : decode code 713 = .ok (.iload_n 3, 1) := by decide +kernel
theorem dL_law_714 : decode code 714 = .ok (.iconst 4, 1) := by decide +kernel
theorem dL_law_715 : decode code 715 = .ok (.iadd, 1) := by decide +kernel
theorem dL_law_716 : decode code 716 = .ok (.iaload, 1) := by decide +kernel
theorem dL_law_717 : decode code 717 = .ok (.ifCond .eq 7, 3) := by decide +kernel
theorem dL_law_720 : decode code 720 = .ok (.iconst 1, 1) := by decide +kernel
theorem dL_law_721 : decode code 721 = .ok (.goto 4, 3) := by decide +kernel
theorem dL_law_724 : decode code 724 = .ok (.iconst 0, 1) := by decide +kernel
theorem dL_law_725 : decode code 725 = .ok (.invokevirtual 67, 3) := by decide +kernel
theorem dL_law_728 : decode code 728 = .ok (.lcmp, 1) := by decide +kernel
theorem dL_law_729 : decode code 729 = .ok (.ifCond .eq 976, 3) := by decide +kernel
theorem dL_law_732 : decode code 732 = .ok (.iconst 0, 1) := by decide +kernel
theorem dL_law_733 : decode code 733 = .ok (.ireturn, 1) := by decide +kernel
theorem dL_law_734 : decode code 734 = .ok (.aload_n 1, 1) := by decide +kernel
theorem dL_law_735 : decode code 735 = .ok (.aload_n 0, 1) := by decide +kernel
theorem dL_law_736 : decode code 736 = .ok (.iload_n 3, 1) := by decide +kernel
theorem dL_law_737 : decode code 737 = .ok (.iconst 1, 1) := by decide +kernel
theorem dL_law_738 : decode code 738 = .ok (.iadd, 1) := by decide +kernel
theorem dL_law_739 : decode code 739 = .ok (.iaload, 1) := by decide +kernel
theorem dL_law_740 : decode code 740 = .ok (.aload_n 0, 1) := by decide +kernel
theorem dL_law_741 : decode code 741 = .ok (.iload_n 3, 1) := by decide +kernel
theorem dL_law_742 : decode code 742 = .ok (.iconst 2, 1) := by decide +kernel
theorem dL_law_743 : decode code 743 = .ok (.iadd, 1) := by decide +kernel
theorem dL_law_744 : decode code 744 = .ok (.iaload, 1) := by decide +kernel
theorem dL_law_745 : decode code 745 = .ok (.aload_n 0, 1) := by decide +kernel
theorem dL_law_746 : decode code 746 = .ok (.iload_n 3, 1) := by decide +kernel
theorem dL_law_747 : decode code 747 = .ok (.iconst 3, 1) := by decide +kernel
theorem dL_law_748 : decode code 748 = .ok (.iadd, 1) := by decide +kernel
theorem dL_law_749 : decode code 749 = .ok (.iaload, 1) := by decide +kernel
theorem dL_law_750 : decode code 750 = .ok (.aload_n 0, 1) := by decide +kernel
theorem dL_law_751 : decode code 751 = .ok (.iload_n 3, 1) := by decide +kernel
theorem dL_law_752 : decode code 752 = .ok (.iconst 4, 1) := by decide +kernel
theorem dL_law_753 : decode code 753 = .ok (.iadd, 1) := by decide +kernel
theorem dL_law_754 : decode code 754 = .ok (.iaload, 1) := by decide +kernel
theorem dL_law_755 : decode code 755 = .ok (.invokevirtual 68, 3) := by decide +kernel
theorem dL_law_758 : decode code 758 = .ok (.aload_n 2, 1) := by decide +kernel
theorem dL_law_759 : decode code 759 = .ok (.aload_n 0, 1) := by decide +kernel
theorem dL_law_760 : decode code 760 = .ok (.iload_n 3, 1) := by decide +kernel
theorem dL_law_761 : decode code 761 = .ok (.iconst 1, 1) := by decide +kernel
theorem dL_law_762 : decode code 762 = .ok (.iadd, 1) := by decide +kernel
theorem dL_law_763 : decode code 763 = .ok (.iaload, 1) := by decide +kernel
theorem dL_law_764 : decode code 764 = .ok (.aload_n 0, 1) := by decide +kernel
theorem dL_law_765 : decode code 765 = .ok (.iload_n 3, 1) := by decide +kernel
theorem dL_law_766 : decode code 766 = .ok (.iconst 2, 1) := by decide +kernel
theorem dL_law_767 : decode code 767 = .ok (.iadd, 1) := by decide +kernel
theorem dL_law_768 : decode code 768 = .ok (.iaload, 1) := by decide +kernel
theorem dL_law_769 : decode code 769 = .ok (.aload_n 0, 1) := by decide +kernel
theorem dL_law_770 : decode code 770 = .ok (.iload_n 3, 1) := by decide +kernel
theorem dL_law_771 : decode code 771 = .ok (.iconst 3, 1) := by decide +kernel
theorem dL_law_772 : decode code 772 = .ok (.iadd, 1) := by decide +kernel
theorem dL_law_773 : decode code 773 = .ok (.iaload, 1) := by decide +kernel
theorem dL_law_774 : decode code 774 = .ok (.aload_n 0, 1) := by decide +kernel
theorem dL_law_775 : decode code 775 = .ok (.iload_n 3, 1) := by decide +kernel
theorem dL_law_776 : decode code 776 = .ok (.iconst 4, 1) := by decide +kernel
theorem dL_law_777 : decode code 777 = .ok (.iadd, 1) := by decide +kernel
theorem dL_law_778 : decode code 778 = .ok (.iaload, 1) := by decide +kernel
theorem dL_law_779 : decode code 779 = .ok (.invokevirtual 71, 3) := by decide +kernel
theorem dL_law_782 : decode code 782 = .ok (.if_icmp .eq 923, 3) := by decide +kernel
theorem dL_law_785 : decode code 785 = .ok (.iconst 0, 1) := by decide +kernel
theorem dL_law_786 : decode code 786 = .ok (.ireturn, 1) := by decide +kernel
theorem dL_law_787 : decode code 787 = .ok (.aload_n 1, 1) := by decide +kernel
theorem dL_law_788 : decode code 788 = .ok (.aload_n 0, 1) := by decide +kernel
theorem dL_law_789 : decode code 789 = .ok (.iload_n 3, 1) := by decide +kernel
theorem dL_law_790 : decode code 790 = .ok (.iconst 1, 1) := by decide +kernel
theorem dL_law_791 : decode code 791 = .ok (.iadd, 1) := by decide +kernel
theorem dL_law_792 : decode code 792 = .ok (.iaload, 1) := by decide +kernel
theorem dL_law_793 : decode code 793 = .ok (.aload_n 0, 1) := by decide +kernel
theorem dL_law_794 : decode code 794 = .ok (.iload_n 3, 1) := by decide +kernel
theorem dL_law_795 : decode code 795 = .ok (.iconst 2, 1) := by decide +kernel
theorem dL_law_796 : decode code 796 = .ok (.iadd, 1) := by decide +kernel
theorem dL_law_797 : decode code 797 = .ok (.iaload, 1) := by decide +kernel
theorem dL_law_798 : decode code 798 = .ok (.aload_n 0, 1) := by decide +kernel
theorem dL_law_799 : decode code 799 = .ok (.iload_n 3, 1) := by decide +kernel
theorem dL_law_800 : decode code 800 = .ok (.iconst 3, 1) := by decide +kernel
theorem dL_law_801 : decode code 801 = .ok (.iadd, 1) := by decide +kernel
theorem dL_law_802 : decode code 802 = .ok (.iaload, 1) := by decide +kernel
theorem dL_law_803 : decode code 803 = .ok (.aload_n 0, 1) := by decide +kernel
theorem dL_law_804 : decode code 804 = .ok (.iload_n 3, 1) := by decide +kernel
theorem dL_law_805 : decode code 805 = .ok (.iconst 4, 1) := by decide +kernel
theorem dL_law_806 : decode code 806 = .ok (.iadd, 1) := by decide +kernel
theorem dL_law_807 : decode code 807 = .ok (.iaload, 1) := by decide +kernel
theorem dL_law_808 : decode code 808 = .ok (.invokevirtual 72, 3) := by decide +kernel
theorem dL_law_811 : decode code 811 = .ok (.aload_n 2, 1) := by decide +kernel
theorem dL_law_812 : decode code 812 = .ok (.aload_n 0, 1) := by decide +kernel
theorem dL_law_813 : decode code 813 = .ok (.iload_n 3, 1) := by decide +kernel
theorem dL_law_814 : decode code 814 = .ok (.iconst 1, 1) := by decide +kernel
theorem dL_law_815 : decode code 815 = .ok (.iadd, 1) := by decide +kernel
theorem dL_law_816 : decode code 816 = .ok (.iaload, 1) := by decide +kernel
theorem dL_law_817 : decode code 817 = .ok (.aload_n 0, 1) := by decide +kernel
theorem dL_law_818 : decode code 818 = .ok (.iload_n 3, 1) := by decide +kernel
theorem dL_law_819 : decode code 819 = .ok (.iconst 2, 1) := by decide +kernel
theorem dL_law_820 : decode code 820 = .ok (.iadd, 1) := by decide +kernel
theorem dL_law_821 : decode code 821 = .ok (.iaload, 1) := by decide +kernel
theorem dL_law_822 : decode code 822 = .ok (.aload_n 0, 1) := by decide +kernel
theorem dL_law_823 : decode code 823 = .ok (.iload_n 3, 1) := by decide +kernel
theorem dL_law_824 : decode code 824 = .ok (.iconst 3, 1) := by decide +kernel
theorem dL_law_825 : decode code 825 = .ok (.iadd, 1) := by decide +kernel
theorem dL_law_826 : decode code 826 = .ok (.iaload, 1) := by decide +kernel
theorem dL_law_827 : decode code 827 = .ok (.aload_n 0, 1) := by decide +kernel
theorem dL_law_828 : decode code 828 = .ok (.iload_n 3, 1) := by decide +kernel
theorem dL_law_829 : decode code 829 = .ok (.iconst 4, 1) := by decide +kernel
theorem dL_law_830 : decode code 830 = .ok (.iadd, 1) := by decide +kernel
theorem dL_law_831 : decode code 831 = .ok (.iaload, 1) := by decide +kernel
theorem dL_law_832 : decode code 832 = .ok (.invokevirtual 75, 3) := by decide +kernel
theorem dL_law_835 : decode code 835 = .ok (.if_icmp .eq 870, 3) := by decide +kernel
theorem dL_law_838 : decode code 838 = .ok (.iconst 0, 1) := by decide +kernel
theorem dL_law_839 : decode code 839 = .ok (.ireturn, 1) := by decide +kernel
theorem dL_law_840 : decode code 840 = .ok (.aload_n 1, 1) := by decide +kernel
theorem dL_law_841 : decode code 841 = .ok (.aload_n 0, 1) := by decide +kernel
theorem dL_law_842 : decode code 842 = .ok (.iload_n 3, 1) := by decide +kernel
theorem dL_law_843 : decode code 843 = .ok (.iconst 1, 1) := by decide +kernel
theorem dL_law_844 : decode code 844 = .ok (.iadd, 1) := by decide +kernel
theorem dL_law_845 : decode code 845 = .ok (.iaload, 1) := by decide +kernel
theorem dL_law_846 : decode code 846 = .ok (.aload_n 0, 1) := by decide +kernel
theorem dL_law_847 : decode code 847 = .ok (.iload_n 3, 1) := by decide +kernel
theorem dL_law_848 : decode code 848 = .ok (.iconst 2, 1) := by decide +kernel
theorem dL_law_849 : decode code 849 = .ok (.iadd, 1) := by decide +kernel
theorem dL_law_850 : decode code 850 = .ok (.iaload, 1) := by decide +kernel
theorem dL_law_851 : decode code 851 = .ok (.aload_n 0, 1) := by decide +kernel
theorem dL_law_852 : decode code 852 = .ok (.iload_n 3, 1) := by decide +kernel
theorem dL_law_853 : decode code 853 = .ok (.iconst 3, 1) := by decide +kernel
theorem dL_law_854 : decode code 854 = .ok (.iadd, 1) := by decide +kernel
theorem dL_law_855 : decode code 855 = .ok (.iaload, 1) := by decide +kernel
theorem dL_law_856 : decode code 856 = .ok (.ifCond .eq 7, 3) := by decide +kernel
theorem dL_law_859 : decode code 859 = .ok (.iconst 1, 1) := by decide +kernel
theorem dL_law_860 : decode code 860 = .ok (.goto 4, 3) := by decide +kernel
theorem dL_law_863 : decode code 863 = .ok (.iconst 0, 1) := by decide +kernel
theorem dL_law_864 : decode code 864 = .ok (.invokevirtual 76, 3) := by decide +kernel
theorem dL_law_867 : decode code 867 = .ok (.aload_n 2, 1) := by decide +kernel
theorem dL_law_868 : decode code 868 = .ok (.aload_n 0, 1) := by decide +kernel
theorem dL_law_869 : decode code 869 = .ok (.iload_n 3, 1) := by decide +kernel
theorem dL_law_870 : decode code 870 = .ok (.iconst 1, 1) := by decide +kernel
theorem dL_law_871 : decode code 871 = .ok (.iadd, 1) := by decide +kernel
theorem dL_law_872 : decode code 872 = .ok (.iaload, 1) := by decide +kernel
theorem dL_law_873 : decode code 873 = .ok (.aload_n 0, 1) := by decide +kernel
theorem dL_law_874 : decode code 874 = .ok (.iload_n 3, 1) := by decide +kernel
theorem dL_law_875 : decode code 875 = .ok (.iconst 2, 1) := by decide +kernel
theorem dL_law_876 : decode code 876 = .ok (.iadd, 1) := by decide +kernel
theorem dL_law_877 : decode code 877 = .ok (.iaload, 1) := by decide +kernel
theorem dL_law_878 : decode code 878 = .ok (.aload_n 0, 1) := by decide +kernel
theorem dL_law_879 : decode code 879 = .ok (.iload_n 3, 1) := by decide +kernel
theorem dL_law_880 : decode code 880 = .ok (.iconst 3, 1) := by decide +kernel
theorem dL_law_881 : decode code 881 = .ok (.iadd, 1) := by decide +kernel
theorem dL_law_882 : decode code 882 = .ok (.iaload, 1) := by decide +kernel
theorem dL_law_883 : decode code 883 = .ok (.ifCond .eq 7, 3) := by decide +kernel
theorem dL_law_886 : decode code 886 = .ok (.iconst 1, 1) := by decide +kernel
theorem dL_law_887 : decode code 887 = .ok (.goto 4, 3) := by decide +kernel
theorem dL_law_890 : decode code 890 = .ok (.iconst 0, 1) := by decide +kernel
theorem dL_law_891 : decode code 891 = .ok (.invokevirtual 80, 3) := by decide +kernel
theorem dL_law_894 : decode code 894 = .ok (.lcmp, 1) := by decide +kernel
theorem dL_law_895 : decode code 895 = .ok (.ifCond .eq 810, 3) := by decide +kernel
theorem dL_law_898 : decode code 898 = .ok (.iconst 0, 1) := by decide +kernel
theorem dL_law_899 : decode code 899 = .ok (.ireturn, 1) := by decide +kernel
theorem dL_law_900 : decode code 900 = .ok (.aload_n 1, 1) := by decide +kernel
theorem dL_law_901 : decode code 901 = .ok (.aload_n 0, 1) := by decide +kernel
theorem dL_law_902 : decode code 902 = .ok (.iload_n 3, 1) := by decide +kernel
theorem dL_law_903 : decode code 903 = .ok (.iconst 1, 1) := by decide +kernel
theorem dL_law_904 : decode code 904 = .ok (.iadd, 1) := by decide +kernel
theorem dL_law_905 : decode code 905 = .ok (.iaload, 1) := by decide +kernel
theorem dL_law_906 : decode code 906 = .ok (.invokevirtual 81, 3) := by decide +kernel
theorem dL_law_909 : decode code 909 = .ok (.aload_n 2, 1) := by decide +kernel
theorem dL_law_910 : decode code 910 = .ok (.aload_n 0, 1) := by decide +kernel
theorem dL_law_911 : decode code 911 = .ok (.iload_n 3, 1) := by decide +kernel
theorem dL_law_912 : decode code 912 = .ok (.iconst 1, 1) := by decide +kernel
theorem dL_law_913 : decode code 913 = .ok (.iadd, 1) := by decide +kernel
theorem dL_law_914 : decode code 914 = .ok (.iaload, 1) := by decide +kernel
theorem dL_law_915 : decode code 915 = .ok (.invokevirtual 84, 3) := by decide +kernel
theorem dL_law_918 : decode code 918 = .ok (.if_icmp .eq 787, 3) := by decide +kernel
theorem dL_law_921 : decode code 921 = .ok (.iconst 0, 1) := by decide +kernel
theorem dL_law_922 : decode code 922 = .ok (.ireturn, 1) := by decide +kernel
theorem dL_law_923 : decode code 923 = .ok (.aload_n 1, 1) := by decide +kernel
theorem dL_law_924 : decode code 924 = .ok (.aload_n 0, 1) := by decide +kernel
theorem dL_law_925 : decode code 925 = .ok (.iload_n 3, 1) := by decide +kernel
theorem dL_law_926 : decode code 926 = .ok (.iconst 1, 1) := by decide +kernel
theorem dL_law_927 : decode code 927 = .ok (.iadd, 1) := by decide +kernel
theorem dL_law_928 : decode code 928 = .ok (.iaload, 1) := by decide +kernel
theorem dL_law_929 : decode code 929 = .ok (.aload_n 0, 1) := by decide +kernel
theorem dL_law_930 : decode code 930 = .ok (.iload_n 3, 1) := by decide +kernel
theorem dL_law_931 : decode code 931 = .ok (.iconst 2, 1) := by decide +kernel
theorem dL_law_932 : decode code 932 = .ok (.iadd, 1) := by decide +kernel
theorem dL_law_933 : decode code 933 = .ok (.iaload, 1) := by decide +kernel
theorem dL_law_934 : decode code 934 = .ok (.invokevirtual 85, 3) := by decide +kernel
theorem dL_law_937 : decode code 937 = .ok (.aload_n 2, 1) := by decide +kernel
theorem dL_law_938 : decode code 938 = .ok (.aload_n 0, 1) := by decide +kernel
theorem dL_law_939 : decode code 939 = .ok (.iload_n 3, 1) := by decide +kernel
theorem dL_law_940 : decode code 940 = .ok (.iconst 1, 1) := by decide +kernel
theorem dL_law_941 : decode code 941 = .ok (.iadd, 1) := by decide +kernel
theorem dL_law_942 : decode code 942 = .ok (.iaload, 1) := by decide +kernel
theorem dL_law_943 : decode code 943 = .ok (.aload_n 0, 1) := by decide +kernel
theorem dL_law_944 : decode code 944 = .ok (.iload_n 3, 1) := by decide +kernel
theorem dL_law_945 : decode code 945 = .ok (.iconst 2, 1) := by decide +kernel
theorem dL_law_946 : decode code 946 = .ok (.iadd, 1) := by decide +kernel
theorem dL_law_947 : decode code 947 = .ok (.iaload, 1) := by decide +kernel
theorem dL_law_948 : decode code 948 = .ok (.invokevirtual 88, 3) := by decide +kernel
theorem dL_law_951 : decode code 951 = .ok (.if_icmp .eq 754, 3) := by decide +kernel
theorem dL_law_954 : decode code 954 = .ok (.iconst 0, 1) := by decide +kernel
theorem dL_law_955 : decode code 955 = .ok (.ireturn, 1) := by decide +kernel
theorem dL_law_956 : decode code 956 = .ok (.aload_n 1, 1) := by decide +kernel
theorem dL_law_957 : decode code 957 = .ok (.aload_n 0, 1) := by decide +kernel
theorem dL_law_958 : decode code 958 = .ok (.iload_n 3, 1) := by decide +kernel
theorem dL_law_959 : decode code 959 = .ok (.iconst 1, 1) := by decide +kernel
theorem dL_law_960 : decode code 960 = .ok (.iadd, 1) := by decide +kernel
theorem dL_law_961 : decode code 961 = .ok (.iaload, 1) := by decide +kernel
theorem dL_law_962 : decode code 962 = .ok (.invokevirtual 89, 3) := by decide +kernel
theorem dL_law_965 : decode code 965 = .ok (.aload_n 2, 1) := by decide +kernel
theorem dL_law_966 : decode code 966 = .ok (.aload_n 0, 1) := by decide +kernel
theorem dL_law_967 : decode code 967 = .ok (.iload_n 3, 1) := by decide +kernel
theorem dL_law_968 : decode code 968 = .ok (.iconst 1, 1) := by decide +kernel
theorem dL_law_969 : decode code 969 = .ok (.iadd, 1) := by decide +kernel
theorem dL_law_970 : decode code 970 = .ok (.iaload, 1) := by decide +kernel
theorem dL_law_971 : decode code 971 = .ok (.invokevirtual 92, 3) := by decide +kernel
theorem dL_law_974 : decode code 974 = .ok (.if_icmp .eq 731, 3) := by decide +kernel
theorem dL_law_977 : decode code 977 = .ok (.iconst 0, 1) := by decide +kernel
theorem dL_law_978 : decode code 978 = .ok (.ireturn, 1) := by decide +kernel
theorem dL_law_979 : decode code 979 = .ok (.aload_n 1, 1) := by decide +kernel
theorem dL_law_980 : decode code 980 = .ok (.aload_n 0, 1) := by decide +kernel
theorem dL_law_981 : decode code 981 = .ok (.iload_n 3, 1) := by decide +kernel
theorem dL_law_982 : decode code 982 = .ok (.iconst 1, 1) := by decide +kernel
theorem dL_law_983 : decode code 983 = .ok (.iadd, 1) := by decide +kernel
theorem dL_law_984 : decode code 984 = .ok (.iaload, 1) := by decide +kernel
theorem dL_law_985 : decode code 985 = .ok (.aload_n 0, 1) := by decide +kernel
theorem dL_law_986 : decode code 986 = .ok (.iload_n 3, 1) := by decide +kernel
theorem dL_law_987 : decode code 987 = .ok (.iconst 2, 1) := by decide +kernel
theorem dL_law_988 : decode code 988 = .ok (.iadd, 1) := by decide +kernel
theorem dL_law_989 : decode code 989 = .ok (.iaload, 1) := by decide +kernel
theorem dL_law_990 : decode code 990 = .ok (.ifCond .eq 7, 3) := by decide +kernel
theorem dL_law_993 : decode code 993 = .ok (.iconst 1, 1) := by decide +kernel
theorem dL_law_994 : decode code 994 = .ok (.goto 4, 3) := by decide +kernel
theorem dL_law_997 : decode code 997 = .ok (.iconst 0, 1) := by decide +kernel
theorem dL_law_998 : decode code 998 = .ok (.invokevirtual 93, 3) := by decide +kernel
theorem dL_law_1001 : decode code 1001 = .ok (.aload_n 2, 1) := by decide +kernel
theorem dL_law_1002 : decode code 1002 = .ok (.aload_n 0, 1) := by decide +kernel
theorem dL_law_1003 : decode code 1003 = .ok (.iload_n 3, 1) := by decide +kernel
theorem dL_law_1004 : decode code 1004 = .ok (.iconst 1, 1) := by decide +kernel
theorem dL_law_1005 : decode code 1005 = .ok (.iadd, 1) := by decide +kernel
theorem dL_law_1006 : decode code 1006 = .ok (.iaload, 1) := by decide +kernel
theorem dL_law_1007 : decode code 1007 = .ok (.aload_n 0, 1) := by decide +kernel
theorem dL_law_1008 : decode code 1008 = .ok (.iload_n 3, 1) := by decide +kernel
theorem dL_law_1009 : decode code 1009 = .ok (.iconst 2, 1) := by decide +kernel
theorem dL_law_1010 : decode code 1010 = .ok (.iadd, 1) := by decide +kernel
theorem dL_law_1011 : decode code 1011 = .ok (.iaload, 1) := by decide +kernel
theorem dL_law_1012 : decode code 1012 = .ok (.ifCond .eq 7, 3) := by decide +kernel
theorem dL_law_1015 : decode code 1015 = .ok (.iconst 1, 1) := by decide +kernel
theorem dL_law_1016 : decode code 1016 = .ok (.goto 4, 3) := by decide +kernel
theorem dL_law_1019 : decode code 1019 = .ok (.iconst 0, 1) := by decide +kernel
theorem dL_law_1020 : decode code 1020 = .ok (.invokevirtual 97, 3) := by decide +kernel
theorem dL_law_1023 : decode code 1023 = .ok (.if_icmp .eq 682, 3) := by decide +kernel
theorem dL_law_1026 : decode code 1026 = .ok (.iconst 0, 1) := by decide +kernel
theorem dL_law_1027 : decode code 1027 = .ok (.ireturn, 1) := by decide +kernel
theorem dL_law_1028 : decode code 1028 = .ok (.aload_n 1, 1) := by decide +kernel
theorem dL_law_1029 : decode code 1029 = .ok (.aload_n 0, 1) := by decide +kernel
theorem dL_law_1030 : decode code 1030 = .ok (.iload_n 3, 1) := by decide +kernel
theorem dL_law_1031 : decode code 1031 = .ok (.iconst 1, 1) := by decide +kernel
theorem dL_law_1032 : decode code 1032 = .ok (.iadd, 1) := by decide +kernel
theorem dL_law_1033 : decode code 1033 = .ok (.iaload, 1) := by decide +kernel
theorem dL_law_1034 : decode code 1034 = .ok (.aload_n 0, 1) := by decide +kernel
theorem dL_law_1035 : decode code 1035 = .ok (.iload_n 3, 1) := by decide +kernel
theorem dL_law_1036 : decode code 1036 = .ok (.iconst 2, 1) := by decide +kernel
theorem dL_law_1037 : decode code 1037 = .ok (.iadd, 1) := by decide +kernel
theorem dL_law_1038 : decode code 1038 = .ok (.iaload, 1) := by decide +kernel
theorem dL_law_1039 : decode code 1039 = .ok (.aload_n 0, 1) := by decide +kernel
theorem dL_law_1040 : decode code 1040 = .ok (.iload_n 3, 1) := by decide +kernel
theorem dL_law_1041 : decode code 1041 = .ok (.iconst 3, 1) := by decide +kernel
theorem dL_law_1042 : decode code 1042 = .ok (.iadd, 1) := by decide +kernel
theorem dL_law_1043 : decode code 1043 = .ok (.iaload, 1) := by decide +kernel
theorem dL_law_1044 : decode code 1044 = .ok (.invokevirtual 98, 3) := by decide +kernel
theorem dL_law_1047 : decode code 1047 = .ok (.aload_n 2, 1) := by decide +kernel
theorem dL_law_1048 : decode code 1048 = .ok (.aload_n 0, 1) := by decide +kernel
theorem dL_law_1049 : decode code 1049 = .ok (.iload_n 3, 1) := by decide +kernel
theorem dL_law_1050 : decode code 1050 = .ok (.iconst 1, 1) := by decide +kernel
theorem dL_law_1051 : decode code 1051 = .ok (.iadd, 1) := by decide +kernel
theorem dL_law_1052 : decode code 1052 = .ok (.iaload, 1) := by decide +kernel
theorem dL_law_1053 : decode code 1053 = .ok (.aload_n 0, 1) := by decide +kernel
theorem dL_law_1054 : decode code 1054 = .ok (.iload_n 3, 1) := by decide +kernel
theorem dL_law_1055 : decode code 1055 = .ok (.iconst 2, 1) := by decide +kernel
theorem dL_law_1056 : decode code 1056 = .ok (.iadd, 1) := by decide +kernel
theorem dL_law_1057 : decode code 1057 = .ok (.iaload, 1) := by decide +kernel
theorem dL_law_1058 : decode code 1058 = .ok (.aload_n 0, 1) := by decide +kernel
theorem dL_law_1059 : decode code 1059 = .ok (.iload_n 3, 1) := by decide +kernel
theorem dL_law_1060 : decode code 1060 = .ok (.iconst 3, 1) := by decide +kernel
theorem dL_law_1061 : decode code 1061 = .ok (.iadd, 1) := by decide +kernel
theorem dL_law_1062 : decode code 1062 = .ok (.iaload, 1) := by decide +kernel
theorem dL_law_1063 : decode code 1063 = .ok (.invokevirtual 101, 3) := by decide +kernel
theorem dL_law_1066 : decode code 1066 = .ok (.if_icmp .eq 639, 3) := by decide +kernel
theorem dL_law_1069 : decode code 1069 = .ok (.iconst 0, 1) := by decide +kernel
theorem dL_law_1070 : decode code 1070 = .ok (.ireturn, 1) := by decide +kernel
theorem dL_law_1071 : decode code 1071 = .ok (.aload_n 1, 1) := by decide +kernel
theorem dL_law_1072 : decode code 1072 = .ok (.aload_n 0, 1) := by decide +kernel
theorem dL_law_1073 : decode code 1073 = .ok (.iload_n 3, 1) := by decide +kernel
theorem dL_law_1074 : decode code 1074 = .ok (.iconst 1, 1) := by decide +kernel
theorem dL_law_1075 : decode code 1075 = .ok (.iadd, 1) := by decide +kernel
theorem dL_law_1076 : decode code 1076 = .ok (.iaload, 1) := by decide +kernel
theorem dL_law_1077 : decode code 1077 = .ok (.aload_n 0, 1) := by decide +kernel
theorem dL_law_1078 : decode code 1078 = .ok (.iload_n 3, 1) := by decide +kernel
theorem dL_law_1079 : decode code 1079 = .ok (.iconst 2, 1) := by decide +kernel
theorem dL_law_1080 : decode code 1080 = .ok (.iadd, 1) := by decide +kernel
theorem dL_law_1081 : decode code 1081 = .ok (.iaload, 1) := by decide +kernel
theorem dL_law_1082 : decode code 1082 = .ok (.invokevirtual 102, 3) := by decide +kernel
theorem dL_law_1085 : decode code 1085 = .ok (.aload_n 2, 1) := by decide +kernel
theorem dL_law_1086 : decode code 1086 = .ok (.aload_n 0, 1) := by decide +kernel
theorem dL_law_1087 : decode code 1087 = .ok (.iload_n 3, 1) := by decide +kernel
theorem dL_law_1088 : decode code 1088 = .ok (.iconst 1, 1) := by decide +kernel
theorem dL_law_1089 : decode code 1089 = .ok (.iadd, 1) := by decide +kernel
theorem dL_law_1090 : decode code 1090 = .ok (.iaload, 1) := by decide +kernel
theorem dL_law_1091 : decode code 1091 = .ok (.aload_n 0, 1) := by decide +kernel
theorem dL_law_1092 : decode code 1092 = .ok (.iload_n 3, 1) := by decide +kernel
theorem dL_law_1093 : decode code 1093 = .ok (.iconst 2, 1) := by decide +kernel
theorem dL_law_1094 : decode code 1094 = .ok (.iadd, 1) := by decide +kernel
theorem dL_law_1095 : decode code 1095 = .ok (.iaload, 1) := by decide +kernel
theorem dL_law_1096 : decode code 1096 = .ok (.invokevirtual 105, 3) := by decide +kernel
theorem dL_law_1099 : decode code 1099 = .ok (.if_icmp .eq 606, 3) := by decide +kernel
theorem dL_law_1102 : decode code 1102 = .ok (.iconst 0, 1) := by decide +kernel
theorem dL_law_1103 : decode code 1103 = .ok (.ireturn, 1) := by decide +kernel
theorem dL_law_1104 : decode code 1104 = .ok (.aload_n 1, 1) := by decide +kernel
theorem dL_law_1105 : decode code 1105 = .ok (.aload_n 0, 1) := by decide +kernel
theorem dL_law_1106 : decode code 1106 = .ok (.iload_n 3, 1) := by decide +kernel
theorem dL_law_1107 : decode code 1107 = .ok (.iconst 1, 1) := by decide +kernel
theorem dL_law_1108 : decode code 1108 = .ok (.iadd, 1) := by decide +kernel
theorem dL_law_1109 : decode code 1109 = .ok (.iaload, 1) := by decide +kernel
theorem dL_law_1110 : decode code 1110 = .ok (.aload_n 0, 1) := by decide +kernel
theorem dL_law_1111 : decode code 1111 = .ok (.iload_n 3, 1) := by decide +kernel
theorem dL_law_1112 : decode code 1112 = .ok (.iconst 2, 1) := by decide +kernel
theorem dL_law_1113 : decode code 1113 = .ok (.iadd, 1) := by decide +kernel
theorem dL_law_1114 : decode code 1114 = .ok (.iaload, 1) := by decide +kernel
theorem dL_law_1115 : decode code 1115 = .ok (.aload_n 0, 1) := by decide +kernel
theorem dL_law_1116 : decode code 1116 = .ok (.iload_n 3, 1) := by decide +kernel
theorem dL_law_1117 : decode code 1117 = .ok (.iconst 3, 1) := by decide +kernel
theorem dL_law_1118 : decode code 1118 = .ok (.iadd, 1) := by decide +kernel
theorem dL_law_1119 : decode code 1119 = .ok (.iaload, 1) := by decide +kernel
theorem dL_law_1120 : decode code 1120 = .ok (.aload_n 0, 1) := by decide +kernel
theorem dL_law_1121 : decode code 1121 = .ok (.iload_n 3, 1) := by decide +kernel
theorem dL_law_1122 : decode code 1122 = .ok (.iconst 4, 1) := by decide +kernel
theorem dL_law_1123 : decode code 1123 = .ok (.iadd, 1) := by decide +kernel
theorem dL_law_1124 : decode code 1124 = .ok (.iaload, 1) := by decide +kernel
theorem dL_law_1125 : decode code 1125 = .ok (.ifCond .eq 7, 3) := by decide +kernel
theorem dL_law_1128 : decode code 1128 = .ok (.iconst 1, 1) := by decide +kernel
theorem dL_law_1129 : decode code 1129 = .ok (.goto 4, 3) := by decide +kernel
theorem dL_law_1132 : decode code 1132 = .ok (.iconst 0, 1) := by decide +kernel
theorem dL_law_1133 : decode code 1133 = .ok (.invokevirtual 106, 3) := by decide +kernel
theorem dL_law_1136 : decode code 1136 = .ok (.aload_n 2, 1) := by decide +kernel
theorem dL_law_1137 : decode code 1137 = .ok (.aload_n 0, 1) := by decide +kernel
theorem dL_law_1138 : decode code 1138 = .ok (.iload_n 3, 1) := by decide +kernel
theorem dL_law_1139 : decode code 1139 = .ok (.iconst 1, 1) := by decide +kernel
theorem dL_law_1140 : decode code 1140 = .ok (.iadd, 1) := by decide +kernel
theorem dL_law_1141 : decode code 1141 = .ok (.iaload, 1) := by decide +kernel
theorem dL_law_1142 : decode code 1142 = .ok (.aload_n 0, 1) := by decide +kernel
theorem dL_law_1143 : decode code 1143 = .ok (.iload_n 3, 1) := by decide +kernel
theorem dL_law_1144 : decode code 1144 = .ok (.iconst 2, 1) := by decide +kernel
theorem dL_law_1145 : decode code 1145 = .ok (.iadd, 1) := by decide +kernel
theorem dL_law_1146 : decode code 1146 = .ok (.iaload, 1) := by decide +kernel
theorem dL_law_1147 : decode code 1147 = .ok (.aload_n 0, 1) := by decide +kernel
theorem dL_law_1148 : decode code 1148 = .ok (.iload_n 3, 1) := by decide +kernel
theorem dL_law_1149 : decode code 1149 = .ok (.iconst 3, 1) := by decide +kernel
theorem dL_law_1150 : decode code 1150 = .ok (.iadd, 1) := by decide +kernel
theorem dL_law_1151 : decode code 1151 = .ok (.iaload, 1) := by decide +kernel
theorem dL_law_1152 : decode code 1152 = .ok (.aload_n 0, 1) := by decide +kernel
theorem dL_law_1153 : decode code 1153 = .ok (.iload_n 3, 1) := by decide +kernel
theorem dL_law_1154 : decode code 1154 = .ok (.iconst 4, 1) := by decide +kernel
theorem dL_law_1155 : decode code 1155 = .ok (.iadd, 1) := by decide +kernel
theorem dL_law_1156 : decode code 1156 = .ok (.iaload, 1) := by decide +kernel
theorem dL_law_1157 : decode code 1157 = .ok (.ifCond .eq 7, 3) := by decide +kernel
theorem dL_law_1160 : decode code 1160 = .ok (.iconst 1, 1) := by decide +kernel
theorem dL_law_1161 : decode code 1161 = .ok (.goto 4, 3) := by decide +kernel
theorem dL_law_1164 : decode code 1164 = .ok (.iconst 0, 1) := by decide +kernel
theorem dL_law_1165 : decode code 1165 = .ok (.invokevirtual 109, 3) := by decide +kernel
theorem dL_law_1168 : decode code 1168 = .ok (.lcmp, 1) := by decide +kernel
theorem dL_law_1169 : decode code 1169 = .ok (.ifCond .eq 536, 3) := by decide +kernel
theorem dL_law_1172 : decode code 1172 = .ok (.iconst 0, 1) := by decide +kernel
theorem dL_law_1173 : decode code 1173 = .ok (.ireturn, 1) := by decide +kernel
theorem dL_law_1174 : decode code 1174 = .ok (.aload_n 1, 1) := by decide +kernel
theorem dL_law_1175 : decode code 1175 = .ok (.aload_n 0, 1) := by decide +kernel
theorem dL_law_1176 : decode code 1176 = .ok (.iload_n 3, 1) := by decide +kernel
theorem dL_law_1177 : decode code 1177 = .ok (.iconst 1, 1) := by decide +kernel
theorem dL_law_1178 : decode code 1178 = .ok (.iadd, 1) := by decide +kernel
theorem dL_law_1179 : decode code 1179 = .ok (.iaload, 1) := by decide +kernel
theorem dL_law_1180 : decode code 1180 = .ok (.aload_n 0, 1) := by decide +kernel
theorem dL_law_1181 : decode code 1181 = .ok (.iload_n 3, 1) := by decide +kernel
theorem dL_law_1182 : decode code 1182 = .ok (.iconst 2, 1) := by decide +kernel
theorem dL_law_1183 : decode code 1183 = .ok (.iadd, 1) := by decide +kernel
theorem dL_law_1184 : decode code 1184 = .ok (.iaload, 1) := by decide +kernel
theorem dL_law_1185 : decode code 1185 = .ok (.aload_n 0, 1) := by decide +kernel
theorem dL_law_1186 : decode code 1186 = .ok (.iload_n 3, 1) := by decide +kernel
theorem dL_law_1187 : decode code 1187 = .ok (.iconst 3, 1) := by decide +kernel
theorem dL_law_1188 : decode code 1188 = .ok (.iadd, 1) := by decide +kernel
theorem dL_law_1189 : decode code 1189 = .ok (.iaload, 1) := by decide +kernel
theorem dL_law_1190 : decode code 1190 = .ok (.aload_n 0, 1) := by decide +kernel
theorem dL_law_1191 : decode code 1191 = .ok (.iload_n 3, 1) := by decide +kernel
theorem dL_law_1192 : decode code 1192 = .ok (.iconst 4, 1) := by decide +kernel
theorem dL_law_1193 : decode code 1193 = .ok (.iadd, 1) := by decide +kernel
theorem dL_law_1194 : decode code 1194 = .ok (.iaload, 1) := by decide +kernel
theorem dL_law_1195 : decode code 1195 = .ok (.invokevirtual 110, 3) := by decide +kernel
theorem dL_law_1198 : decode code 1198 = .ok (.aload_n 2, 1) := by decide +kernel
theorem dL_law_1199 : decode code 1199 = .ok (.aload_n 0, 1) := by decide +kernel
theorem dL_law_1200 : decode code 1200 = .ok (.iload_n 3, 1) := by decide +kernel
theorem dL_law_1201 : decode code 1201 = .ok (.iconst 1, 1) := by decide +kernel
theorem dL_law_1202 : decode code 1202 = .ok (.iadd, 1) := by decide +kernel
theorem dL_law_1203 : decode code 1203 = .ok (.iaload, 1) := by decide +kernel
theorem dL_law_1204 : decode code 1204 = .ok (.aload_n 0, 1) := by decide +kernel
theorem dL_law_1205 : decode code 1205 = .ok (.iload_n 3, 1) := by decide +kernel
theorem dL_law_1206 : decode code 1206 = .ok (.iconst 2, 1) := by decide +kernel
theorem dL_law_1207 : decode code 1207 = .ok (.iadd, 1) := by decide +kernel
theorem dL_law_1208 : decode code 1208 = .ok (.iaload, 1) := by decide +kernel
theorem dL_law_1209 : decode code 1209 = .ok (.aload_n 0, 1) := by decide +kernel
theorem dL_law_1210 : decode code 1210 = .ok (.iload_n 3, 1) := by decide +kernel
theorem dL_law_1211 : decode code 1211 = .ok (.iconst 3, 1) := by decide +kernel
theorem dL_law_1212 : decode code 1212 = .ok (.iadd, 1) := by decide +kernel
theorem dL_law_1213 : decode code 1213 = .ok (.iaload, 1) := by decide +kernel
theorem dL_law_1214 : decode code 1214 = .ok (.aload_n 0, 1) := by decide +kernel
theorem dL_law_1215 : decode code 1215 = .ok (.iload_n 3, 1) := by decide +kernel
theorem dL_law_1216 : decode code 1216 = .ok (.iconst 4, 1) := by decide +kernel
theorem dL_law_1217 : decode code 1217 = .ok (.iadd, 1) := by decide +kernel
theorem dL_law_1218 : decode code 1218 = .ok (.iaload, 1) := by decide +kernel
theorem dL_law_1219 : decode code 1219 = .ok (.invokevirtual 113, 3) := by decide +kernel
theorem dL_law_1222 : decode code 1222 = .ok (.if_icmp .eq 483, 3) := by decide +kernel
theorem dL_law_1225 : decode code 1225 = .ok (.iconst 0, 1) := by decide +kernel
theorem dL_law_1226 : decode code 1226 = .ok (.ireturn, 1) := by decide +kernel
theorem dL_law_1227 : decode code 1227 = .ok (.aload_n 1, 1) := by decide +kernel
theorem dL_law_1228 : decode code 1228 = .ok (.aload_n 0, 1) := by decide +kernel
theorem dL_law_1229 : decode code 1229 = .ok (.iload_n 3, 1) := by decide +kernel
theorem dL_law_1230 : decode code 1230 = .ok (.iconst 1, 1) := by decide +kernel
theorem dL_law_1231 : decode code 1231 = .ok (.iadd, 1) := by decide +kernel
theorem dL_law_1232 : decode code 1232 = .ok (.iaload, 1) := by decide +kernel
theorem dL_law_1233 : decode code 1233 = .ok (.aload_n 0, 1) := by decide +kernel
theorem dL_law_1234 : decode code 1234 = .ok (.iload_n 3, 1) := by decide +kernel
theorem dL_law_1235 : decode code 1235 = .ok (.iconst 2, 1) := by decide +kernel
theorem dL_law_1236 : decode code 1236 = .ok (.iadd, 1) := by decide +kernel
theorem dL_law_1237 : decode code 1237 = .ok (.iaload, 1) := by decide +kernel
theorem dL_law_1238 : decode code 1238 = .ok (.aload_n 0, 1) := by decide +kernel
theorem dL_law_1239 : decode code 1239 = .ok (.iload_n 3, 1) := by decide +kernel
theorem dL_law_1240 : decode code 1240 = .ok (.iconst 3, 1) := by decide +kernel
theorem dL_law_1241 : decode code 1241 = .ok (.iadd, 1) := by decide +kernel
theorem dL_law_1242 : decode code 1242 = .ok (.iaload, 1) := by decide +kernel
theorem dL_law_1243 : decode code 1243 = .ok (.aload_n 0, 1) := by decide +kernel
theorem dL_law_1244 : decode code 1244 = .ok (.iload_n 3, 1) := by decide +kernel
theorem dL_law_1245 : decode code 1245 = .ok (.iconst 4, 1) := by decide +kernel
theorem dL_law_1246 : decode code 1246 = .ok (.iadd, 1) := by decide +kernel
theorem dL_law_1247 : decode code 1247 = .ok (.iaload, 1) := by decide +kernel
theorem dL_law_1248 : decode code 1248 = .ok (.invokevirtual 114, 3) := by decide +kernel
theorem dL_law_1251 : decode code 1251 = .ok (.aload_n 2, 1) := by decide +kernel
theorem dL_law_1252 : decode code 1252 = .ok (.aload_n 0, 1) := by decide +kernel
theorem dL_law_1253 : decode code 1253 = .ok (.iload_n 3, 1) := by decide +kernel
theorem dL_law_1254 : decode code 1254 = .ok (.iconst 1, 1) := by decide +kernel
theorem dL_law_1255 : decode code 1255 = .ok (.iadd, 1) := by decide +kernel
theorem dL_law_1256 : decode code 1256 = .ok (.iaload, 1) := by decide +kernel
theorem dL_law_1257 : decode code 1257 = .ok (.aload_n 0, 1) := by decide +kernel
theorem dL_law_1258 : decode code 1258 = .ok (.iload_n 3, 1) := by decide +kernel
theorem dL_law_1259 : decode code 1259 = .ok (.iconst 2, 1) := by decide +kernel
theorem dL_law_1260 : decode code 1260 = .ok (.iadd, 1) := by decide +kernel
theorem dL_law_1261 : decode code 1261 = .ok (.iaload, 1) := by decide +kernel
theorem dL_law_1262 : decode code 1262 = .ok (.aload_n 0, 1) := by decide +kernel
theorem dL_law_1263 : decode code 1263 = .ok (.iload_n 3, 1) := by decide +kernel
theorem dL_law_1264 : decode code 1264 = .ok (.iconst 3, 1) := by decide +kernel
theorem dL_law_1265 : decode code 1265 = .ok (.iadd, 1) := by decide +kernel
theorem dL_law_1266 : decode code 1266 = .ok (.iaload, 1) := by decide +kernel
theorem dL_law_1267 : decode code 1267 = .ok (.aload_n 0, 1) := by decide +kernel
theorem dL_law_1268 : decode code 1268 = .ok (.iload_n 3, 1) := by decide +kernel
theorem dL_law_1269 : decode code 1269 = .ok (.iconst 4, 1) := by decide +kernel
theorem dL_law_1270 : decode code 1270 = .ok (.iadd, 1) := by decide +kernel
theorem dL_law_1271 : decode code 1271 = .ok (.iaload, 1) := by decide +kernel
theorem dL_law_1272 : decode code 1272 = .ok (.invokevirtual 117, 3) := by decide +kernel
theorem dL_law_1275 : decode code 1275 = .ok (.if_icmp .eq 430, 3) := by decide +kernel
theorem dL_law_1278 : decode code 1278 = .ok (.iconst 0, 1) := by decide +kernel
theorem dL_law_1279 : decode code 1279 = .ok (.ireturn, 1) := by decide +kernel
theorem dL_law_1280 : decode code 1280 = .ok (.aload_n 1, 1) := by decide +kernel
theorem dL_law_1281 : decode code 1281 = .ok (.aload_n 0, 1) := by decide +kernel
theorem dL_law_1282 : decode code 1282 = .ok (.iload_n 3, 1) := by decide +kernel
theorem dL_law_1283 : decode code 1283 = .ok (.iconst 1, 1) := by decide +kernel
theorem dL_law_1284 : decode code 1284 = .ok (.iadd, 1) := by decide +kernel
theorem dL_law_1285 : decode code 1285 = .ok (.iaload, 1) := by decide +kernel
theorem dL_law_1286 : decode code 1286 = .ok (.aload_n 0, 1) := by decide +kernel
theorem dL_law_1287 : decode code 1287 = .ok (.iload_n 3, 1) := by decide +kernel
theorem dL_law_1288 : decode code 1288 = .ok (.iconst 2, 1) := by decide +kernel
theorem dL_law_1289 : decode code 1289 = .ok (.iadd, 1) := by decide +kernel
theorem dL_law_1290 : decode code 1290 = .ok (.iaload, 1) := by decide +kernel
theorem dL_law_1291 : decode code 1291 = .ok (.aload_n 0, 1) := by decide +kernel
theorem dL_law_1292 : decode code 1292 = .ok (.iload_n 3, 1) := by decide +kernel
theorem dL_law_1293 : decode code 1293 = .ok (.iconst 3, 1) := by decide +kernel
theorem dL_law_1294 : decode code 1294 = .ok (.iadd, 1) := by decide +kernel
theorem dL_law_1295 : decode code 1295 = .ok (.iaload, 1) := by decide +kernel
theorem dL_law_1296 : decode code 1296 = .ok (.aload_n 0, 1) := by decide +kernel
theorem dL_law_1297 : decode code 1297 = .ok (.iload_n 3, 1) := by decide +kernel
theorem dL_law_1298 : decode code 1298 = .ok (.iconst 4, 1) := by decide +kernel
theorem dL_law_1299 : decode code 1299 = .ok (.iadd, 1) := by decide +kernel
theorem dL_law_1300 : decode code 1300 = .ok (.iaload, 1) := by decide +kernel
theorem dL_law_1301 : decode code 1301 = .ok (.ifCond .eq 7, 3) := by decide +kernel
theorem dL_law_1304 : decode code 1304 = .ok (.iconst 1, 1) := by decide +kernel
theorem dL_law_1305 : decode code 1305 = .ok (.goto 4, 3) := by decide +kernel
theorem dL_law_1308 : decode code 1308 = .ok (.iconst 0, 1) := by decide +kernel
theorem dL_law_1309 : decode code 1309 = .ok (.invokevirtual 118, 3) := by decide +kernel
theorem dL_law_1312 : decode code 1312 = .ok (.aload_n 2, 1) := by decide +kernel
theorem dL_law_1313 : decode code 1313 = .ok (.aload_n 0, 1) := by decide +kernel
theorem dL_law_1314 : decode code 1314 = .ok (.iload_n 3, 1) := by decide +kernel
theorem dL_law_1315 : decode code 1315 = .ok (.iconst 1, 1) := by decide +kernel
theorem dL_law_1316 : decode code 1316 = .ok (.iadd, 1) := by decide +kernel
theorem dL_law_1317 : decode code 1317 = .ok (.iaload, 1) := by decide +kernel
theorem dL_law_1318 : decode code 1318 = .ok (.aload_n 0, 1) := by decide +kernel
theorem dL_law_1319 : decode code 1319 = .ok (.iload_n 3, 1) := by decide +kernel
theorem dL_law_1320 : decode code 1320 = .ok (.iconst 2, 1) := by decide +kernel
theorem dL_law_1321 : decode code 1321 = .ok (.iadd, 1) := by decide +kernel
theorem dL_law_1322 : decode code 1322 = .ok (.iaload, 1) := by decide +kernel
theorem dL_law_1323 : decode code 1323 = .ok (.aload_n 0, 1) := by decide +kernel
theorem dL_law_1324 : decode code 1324 = .ok (.iload_n 3, 1) := by decide +kernel
theorem dL_law_1325 : decode code 1325 = .ok (.iconst 3, 1) := by decide +kernel
theorem dL_law_1326 : decode code 1326 = .ok (.iadd, 1) := by decide +kernel
theorem dL_law_1327 : decode code 1327 = .ok (.iaload, 1) := by decide +kernel
theorem dL_law_1328 : decode code 1328 = .ok (.aload_n 0, 1) := by decide +kernel
theorem dL_law_1329 : decode code 1329 = .ok (.iload_n 3, 1) := by decide +kernel
theorem dL_law_1330 : decode code 1330 = .ok (.iconst 4, 1) := by decide +kernel
theorem dL_law_1331 : decode code 1331 = .ok (.iadd, 1) := by decide +kernel
theorem dL_law_1332 : decode code 1332 = .ok (.iaload, 1) := by decide +kernel
theorem dL_law_1333 : decode code 1333 = .ok (.ifCond .eq 7, 3) := by decide +kernel
theorem dL_law_1336 : decode code 1336 = .ok (.iconst 1, 1) := by decide +kernel
theorem dL_law_1337 : decode code 1337 = .ok (.goto 4, 3) := by decide +kernel
theorem dL_law_1340 : decode code 1340 = .ok (.iconst 0, 1) := by decide +kernel
theorem dL_law_1341 : decode code 1341 = .ok (.invokevirtual 122, 3) := by decide +kernel
theorem dL_law_1344 : decode code 1344 = .ok (.if_icmp .eq 361, 3) := by decide +kernel
theorem dL_law_1347 : decode code 1347 = .ok (.iconst 0, 1) := by decide +kernel
theorem dL_law_1348 : decode code 1348 = .ok (.ireturn, 1) := by decide +kernel
theorem dL_law_1349 : decode code 1349 = .ok (.aload_n 1, 1) := by decide +kernel
theorem dL_law_1350 : decode code 1350 = .ok (.aload_n 0, 1) := by decide +kernel
theorem dL_law_1351 : decode code 1351 = .ok (.iload_n 3, 1) := by decide +kernel
theorem dL_law_1352 : decode code 1352 = .ok (.iconst 1, 1) := by decide +kernel
theorem dL_law_1353 : decode code 1353 = .ok (.iadd, 1) := by decide +kernel
theorem dL_law_1354 : decode code 1354 = .ok (.iaload, 1) := by decide +kernel
theorem dL_law_1355 : decode code 1355 = .ok (.aload_n 0, 1) := by decide +kernel
theorem dL_law_1356 : decode code 1356 = .ok (.iload_n 3, 1) := by decide +kernel
theorem dL_law_1357 : decode code 1357 = .ok (.iconst 2, 1) := by decide +kernel
theorem dL_law_1358 : decode code 1358 = .ok (.iadd, 1) := by decide +kernel
theorem dL_law_1359 : decode code 1359 = .ok (.iaload, 1) := by decide +kernel
theorem dL_law_1360 : decode code 1360 = .ok (.aload_n 0, 1) := by decide +kernel
theorem dL_law_1361 : decode code 1361 = .ok (.iload_n 3, 1) := by decide +kernel
theorem dL_law_1362 : decode code 1362 = .ok (.iconst 3, 1) := by decide +kernel
theorem dL_law_1363 : decode code 1363 = .ok (.iadd, 1) := by decide +kernel
theorem dL_law_1364 : decode code 1364 = .ok (.iaload, 1) := by decide +kernel
theorem dL_law_1365 : decode code 1365 = .ok (.aload_n 0, 1) := by decide +kernel
theorem dL_law_1366 : decode code 1366 = .ok (.iload_n 3, 1) := by decide +kernel
theorem dL_law_1367 : decode code 1367 = .ok (.iconst 4, 1) := by decide +kernel
theorem dL_law_1368 : decode code 1368 = .ok (.iadd, 1) := by decide +kernel
theorem dL_law_1369 : decode code 1369 = .ok (.iaload, 1) := by decide +kernel
theorem dL_law_1370 : decode code 1370 = .ok (.ifCond .eq 7, 3) := by decide +kernel
theorem dL_law_1373 : decode code 1373 = .ok (.iconst 1, 1) := by decide +kernel
theorem dL_law_1374 : decode code 1374 = .ok (.goto 4, 3) := by decide +kernel
theorem dL_law_1377 : decode code 1377 = .ok (.iconst 0, 1) := by decide +kernel
theorem dL_law_1378 : decode code 1378 = .ok (.invokevirtual 123, 3) := by decide +kernel
theorem dL_law_1381 : decode code 1381 = .ok (.aload_n 2, 1) := by decide +kernel
theorem dL_law_1382 : decode code 1382 = .ok (.aload_n 0, 1) := by decide +kernel
theorem dL_law_1383 : decode code 1383 = .ok (.iload_n 3, 1) := by decide +kernel
theorem dL_law_1384 : decode code 1384 = .ok (.iconst 1, 1) := by decide +kernel
theorem dL_law_1385 : decode code 1385 = .ok (.iadd, 1) := by decide +kernel
theorem dL_law_1386 : decode code 1386 = .ok (.iaload, 1) := by decide +kernel
theorem dL_law_1387 : decode code 1387 = .ok (.aload_n 0, 1) := by decide +kernel
theorem dL_law_1388 : decode code 1388 = .ok (.iload_n 3, 1) := by decide +kernel
theorem dL_law_1389 : decode code 1389 = .ok (.iconst 2, 1) := by decide +kernel
theorem dL_law_1390 : decode code 1390 = .ok (.iadd, 1) := by decide +kernel
theorem dL_law_1391 : decode code 1391 = .ok (.iaload, 1) := by decide +kernel
theorem dL_law_1392 : decode code 1392 = .ok (.aload_n 0, 1) := by decide +kernel
theorem dL_law_1393 : decode code 1393 = .ok (.iload_n 3, 1) := by decide +kernel
theorem dL_law_1394 : decode code 1394 = .ok (.iconst 3, 1) := by decide +kernel
theorem dL_law_1395 : decode code 1395 = .ok (.iadd, 1) := by decide +kernel
theorem dL_law_1396 : decode code 1396 = .ok (.iaload, 1) := by decide +kernel
theorem dL_law_1397 : decode code 1397 = .ok (.aload_n 0, 1) := by decide +kernel
theorem dL_law_1398 : decode code 1398 = .ok (.iload_n 3, 1) := by decide +kernel
theorem dL_law_1399 : decode code 1399 = .ok (.iconst 4, 1) := by decide +kernel
theorem dL_law_1400 : decode code 1400 = .ok (.iadd, 1) := by decide +kernel
theorem dL_law_1401 : decode code 1401 = .ok (.iaload, 1) := by decide +kernel
theorem dL_law_1402 : decode code 1402 = .ok (.ifCond .eq 7, 3) := by decide +kernel
theorem dL_law_1405 : decode code 1405 = .ok (.iconst 1, 1) := by decide +kernel
theorem dL_law_1406 : decode code 1406 = .ok (.goto 4, 3) := by decide +kernel
theorem dL_law_1409 : decode code 1409 = .ok (.iconst 0, 1) := by decide +kernel
theorem dL_law_1410 : decode code 1410 = .ok (.invokevirtual 126, 3) := by decide +kernel
theorem dL_law_1413 : decode code 1413 = .ok (.if_icmp .eq 292, 3) := by decide +kernel
theorem dL_law_1416 : decode code 1416 = .ok (.iconst 0, 1) := by decide +kernel
theorem dL_law_1417 : decode code 1417 = .ok (.ireturn, 1) := by decide +kernel
theorem dL_law_1418 : decode code 1418 = .ok (.aload_n 1, 1) := by decide +kernel
theorem dL_law_1419 : decode code 1419 = .ok (.aload_n 0, 1) := by decide +kernel
theorem dL_law_1420 : decode code 1420 = .ok (.iload_n 3, 1) := by decide +kernel
theorem dL_law_1421 : decode code 1421 = .ok (.iconst 1, 1) := by decide +kernel
theorem dL_law_1422 : decode code 1422 = .ok (.iadd, 1) := by decide +kernel
theorem dL_law_1423 : decode code 1423 = .ok (.iaload, 1) := by decide +kernel
theorem dL_law_1424 : decode code 1424 = .ok (.aload_n 0, 1) := by decide +kernel
theorem dL_law_1425 : decode code 1425 = .ok (.iload_n 3, 1) := by decide +kernel
theorem dL_law_1426 : decode code 1426 = .ok (.iconst 2, 1) := by decide +kernel
theorem dL_law_1427 : decode code 1427 = .ok (.iadd, 1) := by decide +kernel
theorem dL_law_1428 : decode code 1428 = .ok (.iaload, 1) := by decide +kernel
theorem dL_law_1429 : decode code 1429 = .ok (.invokevirtual 127, 3) := by decide +kernel
theorem dL_law_1432 : decode code 1432 = .ok (.aload_n 2, 1) := by decide +kernel
theorem dL_law_1433 : decode code 1433 = .ok (.aload_n 0, 1) := by decide +kernel
theorem dL_law_1434 : decode code 1434 = .ok (.iload_n 3, 1) := by decide +kernel
theorem dL_law_1435 : decode code 1435 = .ok (.iconst 1, 1) := by decide +kernel
theorem dL_law_1436 : decode code 1436 = .ok (.iadd, 1) := by decide +kernel
theorem dL_law_1437 : decode code 1437 = .ok (.iaload, 1) := by decide +kernel
theorem dL_law_1438 : decode code 1438 = .ok (.aload_n 0, 1) := by decide +kernel
theorem dL_law_1439 : decode code 1439 = .ok (.iload_n 3, 1) := by decide +kernel
theorem dL_law_1440 : decode code 1440 = .ok (.iconst 2, 1) := by decide +kernel
theorem dL_law_1441 : decode code 1441 = .ok (.iadd, 1) := by decide +kernel
theorem dL_law_1442 : decode code 1442 = .ok (.iaload, 1) := by decide +kernel
theorem dL_law_1443 : decode code 1443 = .ok (.invokevirtual 130, 3) := by decide +kernel
theorem dL_law_1446 : decode code 1446 = .ok (.if_icmp .eq 259, 3) := by decide +kernel
theorem dL_law_1449 : decode code 1449 = .ok (.iconst 0, 1) := by decide +kernel
theorem dL_law_1450 : decode code 1450 = .ok (.ireturn, 1) := by decide +kernel
theorem dL_law_1451 : decode code 1451 = .ok (.aload_n 1, 1) := by decide +kernel
theorem dL_law_1452 : decode code 1452 = .ok (.aload_n 0, 1) := by decide +kernel
theorem dL_law_1453 : decode code 1453 = .ok (.iload_n 3, 1) := by decide +kernel
theorem dL_law_1454 : decode code 1454 = .ok (.iconst 1, 1) := by decide +kernel
theorem dL_law_1455 : decode code 1455 = .ok (.iadd, 1) := by decide +kernel
theorem dL_law_1456 : decode code 1456 = .ok (.iaload, 1) := by decide +kernel
theorem dL_law_1457 : decode code 1457 = .ok (.aload_n 0, 1) := by decide +kernel
theorem dL_law_1458 : decode code 1458 = .ok (.iload_n 3, 1) := by decide +kernel
theorem dL_law_1459 : decode code 1459 = .ok (.iconst 2, 1) := by decide +kernel
theorem dL_law_1460 : decode code 1460 = .ok (.iadd, 1) := by decide +kernel
theorem dL_law_1461 : decode code 1461 = .ok (.iaload, 1) := by decide +kernel
theorem dL_law_1462 : decode code 1462 = .ok (.invokevirtual 131, 3) := by decide +kernel
theorem dL_law_1465 : decode code 1465 = .ok (.aload_n 2, 1) := by decide +kernel
theorem dL_law_1466 : decode code 1466 = .ok (.aload_n 0, 1) := by decide +kernel
theorem dL_law_1467 : decode code 1467 = .ok (.iload_n 3, 1) := by decide +kernel
theorem dL_law_1468 : decode code 1468 = .ok (.iconst 1, 1) := by decide +kernel
theorem dL_law_1469 : decode code 1469 = .ok (.iadd, 1) := by decide +kernel
theorem dL_law_1470 : decode code 1470 = .ok (.iaload, 1) := by decide +kernel
theorem dL_law_1471 : decode code 1471 = .ok (.aload_n 0, 1) := by decide +kernel
theorem dL_law_1472 : decode code 1472 = .ok (.iload_n 3, 1) := by decide +kernel
theorem dL_law_1473 : decode code 1473 = .ok (.iconst 2, 1) := by decide +kernel
theorem dL_law_1474 : decode code 1474 = .ok (.iadd, 1) := by decide +kernel
theorem dL_law_1475 : decode code 1475 = .ok (.iaload, 1) := by decide +kernel
theorem dL_law_1476 : decode code 1476 = .ok (.invokevirtual 134, 3) := by decide +kernel
theorem dL_law_1479 : decode code 1479 = .ok (.if_icmp .eq 226, 3) := by decide +kernel
theorem dL_law_1482 : decode code 1482 = .ok (.iconst 0, 1) := by decide +kernel
theorem dL_law_1483 : decode code 1483 = .ok (.ireturn, 1) := by decide +kernel
theorem dL_law_1484 : decode code 1484 = .ok (.aload_n 1, 1) := by decide +kernel
theorem dL_law_1485 : decode code 1485 = .ok (.aload_n 0, 1) := by decide +kernel
theorem dL_law_1486 : decode code 1486 = .ok (.iload_n 3, 1) := by decide +kernel
theorem dL_law_1487 : decode code 1487 = .ok (.iconst 1, 1) := by decide +kernel
theorem dL_law_1488 : decode code 1488 = .ok (.iadd, 1) := by decide +kernel
theorem dL_law_1489 : decode code 1489 = .ok (.iaload, 1) := by decide +kernel
theorem dL_law_1490 : decode code 1490 = .ok (.aload_n 0, 1) := by decide +kernel
theorem dL_law_1491 : decode code 1491 = .ok (.iload_n 3, 1) := by decide +kernel
theorem dL_law_1492 : decode code 1492 = .ok (.iconst 2, 1) := by decide +kernel
theorem dL_law_1493 : decode code 1493 = .ok (.iadd, 1) := by decide +kernel
theorem dL_law_1494 : decode code 1494 = .ok (.iaload, 1) := by decide +kernel
theorem dL_law_1495 : decode code 1495 = .ok (.aload_n 0, 1) := by decide +kernel
theorem dL_law_1496 : decode code 1496 = .ok (.iload_n 3, 1) := by decide +kernel
theorem dL_law_1497 : decode code 1497 = .ok (.iconst 3, 1) := by decide +kernel
theorem dL_law_1498 : decode code 1498 = .ok (.iadd, 1) := by decide +kernel
theorem dL_law_1499 : decode code 1499 = .ok (.iaload, 1) := by decide +kernel
theorem dL_law_1500 : decode code 1500 = .ok (.invokevirtual 135, 3) := by decide +kernel
theorem dL_law_1503 : decode code 1503 = .ok (.aload_n 2, 1) := by decide +kernel
theorem dL_law_1504 : decode code 1504 = .ok (.aload_n 0, 1) := by decide +kernel
theorem dL_law_1505 : decode code 1505 = .ok (.iload_n 3, 1) := by decide +kernel
theorem dL_law_1506 : decode code 1506 = .ok (.iconst 1, 1) := by decide +kernel
theorem dL_law_1507 : decode code 1507 = .ok (.iadd, 1) := by decide +kernel
theorem dL_law_1508 : decode code 1508 = .ok (.iaload, 1) := by decide +kernel
theorem dL_law_1509 : decode code 1509 = .ok (.aload_n 0, 1) := by decide +kernel
theorem dL_law_1510 : decode code 1510 = .ok (.iload_n 3, 1) := by decide +kernel
theorem dL_law_1511 : decode code 1511 = .ok (.iconst 2, 1) := by decide +kernel
theorem dL_law_1512 : decode code 1512 = .ok (.iadd, 1) := by decide +kernel
theorem dL_law_1513 : decode code 1513 = .ok (.iaload, 1) := by decide +kernel
theorem dL_law_1514 : decode code 1514 = .ok (.aload_n 0, 1) := by decide +kernel
theorem dL_law_1515 : decode code 1515 = .ok (.iload_n 3, 1) := by decide +kernel
theorem dL_law_1516 : decode code 1516 = .ok (.iconst 3, 1) := by decide +kernel
theorem dL_law_1517 : decode code 1517 = .ok (.iadd, 1) := by decide +kernel
theorem dL_law_1518 : decode code 1518 = .ok (.iaload, 1) := by decide +kernel
theorem dL_law_1519 : decode code 1519 = .ok (.invokevirtual 138, 3) := by decide +kernel
theorem dL_law_1522 : decode code 1522 = .ok (.if_icmp .eq 183, 3) := by decide +kernel
theorem dL_law_1525 : decode code 1525 = .ok (.iconst 0, 1) := by decide +kernel
theorem dL_law_1526 : decode code 1526 = .ok (.ireturn, 1) := by decide +kernel
theorem dL_law_1527 : decode code 1527 = .ok (.aload_n 1, 1) := by decide +kernel
theorem dL_law_1528 : decode code 1528 = .ok (.aload_n 0, 1) := by decide +kernel
theorem dL_law_1529 : decode code 1529 = .ok (.iload_n 3, 1) := by decide +kernel
theorem dL_law_1530 : decode code 1530 = .ok (.iconst 1, 1) := by decide +kernel
theorem dL_law_1531 : decode code 1531 = .ok (.iadd, 1) := by decide +kernel
theorem dL_law_1532 : decode code 1532 = .ok (.iaload, 1) := by decide +kernel
theorem dL_law_1533 : decode code 1533 = .ok (.aload_n 0, 1) := by decide +kernel
theorem dL_law_1534 : decode code 1534 = .ok (.iload_n 3, 1) := by decide +kernel
theorem dL_law_1535 : decode code 1535 = .ok (.iconst 2, 1) := by decide +kernel
theorem dL_law_1536 : decode code 1536 = .ok (.iadd, 1) := by decide +kernel
theorem dL_law_1537 : decode code 1537 = .ok (.iaload, 1) := by decide +kernel
theorem dL_law_1538 : decode code 1538 = .ok (.ifCond .eq 7, 3) := by decide +kernel
theorem dL_law_1541 : decode code 1541 = .ok (.iconst 1, 1) := by decide +kernel
theorem dL_law_1542 : decode code 1542 = .ok (.goto 4, 3) := by decide +kernel
theorem dL_law_1545 : decode code 1545 = .ok (.iconst 0, 1) := by decide +kernel
theorem dL_law_1546 : decode code 1546 = .ok (.invokevirtual 139, 3) := by decide +kernel
theorem dL_law_1549 : decode code 1549 = .ok (.aload_n 2, 1) := by decide +kernel
theorem dL_law_1550 : decode code 1550 = .ok (.aload_n 0, 1) := by decide +kernel
theorem dL_law_1551 : decode code 1551 = .ok (.iload_n 3, 1) := by decide +kernel
theorem dL_law_1552 : decode code 1552 = .ok (.iconst 1, 1) := by decide +kernel
theorem dL_law_1553 : decode code 1553 = .ok (.iadd, 1) := by decide +kernel
theorem dL_law_1554 : decode code 1554 = .ok (.iaload, 1) := by decide +kernel
theorem dL_law_1555 : decode code 1555 = .ok (.aload_n 0, 1) := by decide +kernel
theorem dL_law_1556 : decode code 1556 = .ok (.iload_n 3, 1) := by decide +kernel
theorem dL_law_1557 : decode code 1557 = .ok (.iconst 2, 1) := by decide +kernel
theorem dL_law_1558 : decode code 1558 = .ok (.iadd, 1) := by decide +kernel
theorem dL_law_1559 : decode code 1559 = .ok (.iaload, 1) := by decide +kernel
theorem dL_law_1560 : decode code 1560 = .ok (.ifCond .eq 7, 3) := by decide +kernel
theorem dL_law_1563 : decode code 1563 = .ok (.iconst 1, 1) := by decide +kernel
theorem dL_law_1564 : decode code 1564 = .ok (.goto 4, 3) := by decide +kernel
theorem dL_law_1567 : decode code 1567 = .ok (.iconst 0, 1) := by decide +kernel
theorem dL_law_1568 : decode code 1568 = .ok (.invokevirtual 142, 3) := by decide +kernel
theorem dL_law_1571 : decode code 1571 = .ok (.if_icmp .eq 134, 3) := by decide +kernel
theorem dL_law_1574 : decode code 1574 = .ok (.iconst 0, 1) := by decide +kernel
theorem dL_law_1575 : decode code 1575 = .ok (.ireturn, 1) := by decide +kernel
theorem dL_law_1576 : decode code 1576 = .ok (.aload_n 1, 1) := by decide +kernel
theorem dL_law_1577 : decode code 1577 = .ok (.aload_n 0, 1) := by decide +kernel
theorem dL_law_1578 : decode code 1578 = .ok (.iload_n 3, 1) := by decide +kernel
theorem dL_law_1579 : decode code 1579 = .ok (.iconst 1, 1) := by decide +kernel
theorem dL_law_1580 : decode code 1580 = .ok (.iadd, 1) := by decide +kernel
theorem dL_law_1581 : decode code 1581 = .ok (.iaload, 1) := by decide +kernel
theorem dL_law_1582 : decode code 1582 = .ok (.aload_n 0, 1) := by decide +kernel
theorem dL_law_1583 : decode code 1583 = .ok (.iload_n 3, 1) := by decide +kernel
theorem dL_law_1584 : decode code 1584 = .ok (.iconst 2, 1) := by decide +kernel
theorem dL_law_1585 : decode code 1585 = .ok (.iadd, 1) := by decide +kernel
theorem dL_law_1586 : decode code 1586 = .ok (.iaload, 1) := by decide +kernel
theorem dL_law_1587 : decode code 1587 = .ok (.aload_n 0, 1) := by decide +kernel
theorem dL_law_1588 : decode code 1588 = .ok (.iload_n 3, 1) := by decide +kernel
theorem dL_law_1589 : decode code 1589 = .ok (.iconst 3, 1) := by decide +kernel
theorem dL_law_1590 : decode code 1590 = .ok (.iadd, 1) := by decide +kernel
theorem dL_law_1591 : decode code 1591 = .ok (.iaload, 1) := by decide +kernel
theorem dL_law_1592 : decode code 1592 = .ok (.ifCond .eq 7, 3) := by decide +kernel
theorem dL_law_1595 : decode code 1595 = .ok (.iconst 1, 1) := by decide +kernel
theorem dL_law_1596 : decode code 1596 = .ok (.goto 4, 3) := by decide +kernel
theorem dL_law_1599 : decode code 1599 = .ok (.iconst 0, 1) := by decide +kernel
theorem dL_law_1600 : decode code 1600 = .ok (.invokevirtual 143, 3) := by decide +kernel
theorem dL_law_1603 : decode code 1603 = .ok (.aload_n 2, 1) := by decide +kernel
theorem dL_law_1604 : decode code 1604 = .ok (.aload_n 0, 1) := by decide +kernel
theorem dL_law_1605 : decode code 1605 = .ok (.iload_n 3, 1) := by decide +kernel
theorem dL_law_1606 : decode code 1606 = .ok (.iconst 1, 1) := by decide +kernel
theorem dL_law_1607 : decode code 1607 = .ok (.iadd, 1) := by decide +kernel
theorem dL_law_1608 : decode code 1608 = .ok (.iaload, 1) := by decide +kernel
theorem dL_law_1609 : decode code 1609 = .ok (.aload_n 0, 1) := by decide +kernel
theorem dL_law_1610 : decode code 1610 = .ok (.iload_n 3, 1) := by decide +kernel
theorem dL_law_1611 : decode code 1611 = .ok (.iconst 2, 1) := by decide +kernel
theorem dL_law_1612 : decode code 1612 = .ok (.iadd, 1) := by decide +kernel
theorem dL_law_1613 : decode code 1613 = .ok (.iaload, 1) := by decide +kernel
theorem dL_law_1614 : decode code 1614 = .ok (.aload_n 0, 1) := by decide +kernel
theorem dL_law_1615 : decode code 1615 = .ok (.iload_n 3, 1) := by decide +kernel
theorem dL_law_1616 : decode code 1616 = .ok (.iconst 3, 1) := by decide +kernel
theorem dL_law_1617 : decode code 1617 = .ok (.iadd, 1) := by decide +kernel
theorem dL_law_1618 : decode code 1618 = .ok (.iaload, 1) := by decide +kernel
theorem dL_law_1619 : decode code 1619 = .ok (.ifCond .eq 7, 3) := by decide +kernel
theorem dL_law_1622 : decode code 1622 = .ok (.iconst 1, 1) := by decide +kernel
theorem dL_law_1623 : decode code 1623 = .ok (.goto 4, 3) := by decide +kernel
theorem dL_law_1626 : decode code 1626 = .ok (.iconst 0, 1) := by decide +kernel
theorem dL_law_1627 : decode code 1627 = .ok (.invokevirtual 146, 3) := by decide +kernel
theorem dL_law_1630 : decode code 1630 = .ok (.lcmp, 1) := by decide +kernel
theorem dL_law_1631 : decode code 1631 = .ok (.ifCond .eq 74, 3) := by decide +kernel
theorem dL_law_1634 : decode code 1634 = .ok (.iconst 0, 1) := by decide +kernel
theorem dL_law_1635 : decode code 1635 = .ok (.ireturn, 1) := by decide +kernel
theorem dL_law_1636 : decode code 1636 = .ok (.aload_n 1, 1) := by decide +kernel
theorem dL_law_1637 : decode code 1637 = .ok (.aload_n 0, 1) := by decide +kernel
theorem dL_law_1638 : decode code 1638 = .ok (.iload_n 3, 1) := by decide +kernel
theorem dL_law_1639 : decode code 1639 = .ok (.iconst 1, 1) := by decide +kernel
theorem dL_law_1640 : decode code 1640 = .ok (.iadd, 1) := by decide +kernel
theorem dL_law_1641 : decode code 1641 = .ok (.iaload, 1) := by decide +kernel
theorem dL_law_1642 : decode code 1642 = .ok (.invokevirtual 147, 3) := by decide +kernel
theorem dL_law_1645 : decode code 1645 = .ok (.aload_n 2, 1) := by decide +kernel
theorem dL_law_1646 : decode code 1646 = .ok (.aload_n 0, 1) := by decide +kernel
theorem dL_law_1647 : decode code 1647 = .ok (.iload_n 3, 1) := by decide +kernel
theorem dL_law_1648 : decode code 1648 = .ok (.iconst 1, 1) := by decide +kernel
theorem dL_law_1649 : decode code 1649 = .ok (.iadd, 1) := by decide +kernel
theorem dL_law_1650 : decode code 1650 = .ok (.iaload, 1) := by decide +kernel
theorem dL_law_1651 : decode code 1651 = .ok (.invokevirtual 150, 3) := by decide +kernel
theorem dL_law_1654 : decode code 1654 = .ok (.if_icmp .eq 51, 3) := by decide +kernel
theorem dL_law_1657 : decode code 1657 = .ok (.iconst 0, 1) := by decide +kernel
theorem dL_law_1658 : decode code 1658 = .ok (.ireturn, 1) := by decide +kernel
theorem dL_law_1659 : decode code 1659 = .ok (.aload_n 1, 1) := by decide +kernel
theorem dL_law_1660 : decode code 1660 = .ok (.aload_n 0, 1) := by decide +kernel
theorem dL_law_1661 : decode code 1661 = .ok (.iload_n 3, 1) := by decide +kernel
theorem dL_law_1662 : decode code 1662 = .ok (.iconst 1, 1) := by decide +kernel
theorem dL_law_1663 : decode code 1663 = .ok (.iadd, 1) := by decide +kernel
theorem dL_law_1664 : decode code 1664 = .ok (.iaload, 1) := by decide +kernel
theorem dL_law_1665 : decode code 1665 = .ok (.invokevirtual 151, 3) := by decide +kernel
theorem dL_law_1668 : decode code 1668 = .ok (.aload_n 2, 1) := by decide +kernel
theorem dL_law_1669 : decode code 1669 = .ok (.aload_n 0, 1) := by decide +kernel
theorem dL_law_1670 : decode code 1670 = .ok (.iload_n 3, 1) := by decide +kernel
theorem dL_law_1671 : decode code 1671 = .ok (.iconst 1, 1) := by decide +kernel
theorem dL_law_1672 : decode code 1672 = .ok (.iadd, 1) := by decide +kernel
theorem dL_law_1673 : decode code 1673 = .ok (.iaload, 1) := by decide +kernel
theorem dL_law_1674 : decode code 1674 = .ok (.invokevirtual 155, 3) := by decide +kernel
theorem dL_law_1677 : decode code 1677 = .ok (.if_icmp .eq 28, 3) := by decide +kernel
theorem dL_law_1680 : decode code 1680 = .ok (.iconst 0, 1) := by decide +kernel
theorem dL_law_1681 : decode code 1681 = .ok (.ireturn, 1) := by decide +kernel
theorem dL_law_1682 : decode code 1682 = .ok (.aload_n 1, 1) := by decide +kernel
theorem dL_law_1683 : decode code 1683 = .ok (.aload_n 0, 1) := by decide +kernel
theorem dL_law_1684 : decode code 1684 = .ok (.iload_n 3, 1) := by decide +kernel
theorem dL_law_1685 : decode code 1685 = .ok (.iconst 1, 1) := by decide +kernel
theorem dL_law_1686 : decode code 1686 = .ok (.iadd, 1) := by decide +kernel
theorem dL_law_1687 : decode code 1687 = .ok (.iaload, 1) := by decide +kernel
theorem dL_law_1688 : decode code 1688 = .ok (.invokevirtual 156, 3) := by decide +kernel
theorem dL_law_1691 : decode code 1691 = .ok (.aload_n 2, 1) := by decide +kernel
theorem dL_law_1692 : decode code 1692 = .ok (.aload_n 0, 1) := by decide +kernel
theorem dL_law_1693 : decode code 1693 = .ok (.iload_n 3, 1) := by decide +kernel
theorem dL_law_1694 : decode code 1694 = .ok (.iconst 1, 1) := by decide +kernel
theorem dL_law_1695 : decode code 1695 = .ok (.iadd, 1) := by decide +kernel
theorem dL_law_1696 : decode code 1696 = .ok (.iaload, 1) := by decide +kernel
theorem dL_law_1697 : decode code 1697 = .ok (.invokevirtual 159, 3) := by decide +kernel
theorem dL_law_1700 : decode code 1700 = .ok (.if_icmp .eq 5, 3) := by decide +kernel
theorem dL_law_1703 : decode code 1703 = .ok (.iconst 0, 1) := by decide +kernel
theorem dL_law_1704 : decode code 1704 = .ok (.ireturn, 1) := by decide +kernel
theorem dL_law_1705 : decode code 1705 = .ok (.iinc 3 6, 3) := by decide +kernel
theorem dL_law_1708 : decode code 1708 = .ok (.goto (-1690), 3) := by decide +kernel
theorem dL_law_1711 : decode code 1711 = .ok (.iconst 1, 1) := by decide +kernel
theorem dL_law_1712 : decode code 1712 = .ok (.ireturn, 1) := by decide +kernel
set_option maxRecDepth 10000 in
theorem wL_law_0 {g : zG} {I : Nat → Nat → Int32} {P : Nat → Nat → Option Nat} {r : Option Value} {h' : zH} {Ls : Nat} {xs : Nat → Int32} (H : ∃ (h1 : zH), Cl mX11_init [.ref ((g, I, P).1.1)] (zNew (g, I, P) 11 0) none h1 ∧ ∃ (h4 : zH), Cl mX12_init [.ref h1.1.1] (zNew h1 12 0) none h4 ∧ Zt (some (Ls, xs)) mL_law 114 22036 18 [(0, .retAddr 1000), (1, .ref ((g, I, P).1.1)), (2, .ref h1.1.1), (3, .int 0)] [] h4 r h') : Zt (some (Ls, xs)) mL_law 0 0 0 [(0, .retAddr 1000)] [] (g, I, P) r h' := by
  refine z_new (c := 11) dL_law_0 wc_L_7 wn_11 wi_X11 (by decide) (by decide) (by decide) (z_dup dL_law_3 rfl ?_)
  obtain ⟨h1, c2, H3⟩ := H
  refine z_init (As := []) (st := [.ref ((g, I, P).1.1)]) (h1 := h1) dL_law_4 kX11_init wm_L_9 ⟨by decide, by decide⟩ rfl rfl (Nat.le_of_ble_eq_true rfl) (by decide) (by decide) c2 ?_
  refine z_astore_n (lv' := [(1, .ref ((g, I, P).1.1)), (0, .retAddr 1000)]) dL_law_7 (by decide) rfl rfl (z_new (c := 12) dL_law_8 wc_L_10 wn_12 wi_X12 (by decide) (by decide) (by decide) (z_dup dL_law_11 rfl ?_))
  obtain ⟨h4, c5, H6⟩ := H3
  refine z_init (As := []) (st := [.ref h1.1.1]) (h1 := h4) dL_law_12 kX12_init wm_L_12 ⟨by decide, by decide⟩ rfl rfl (Nat.le_of_ble_eq_true rfl) (by decide) (by decide) c5 ?_
  refine z_astore_n (lv' := [(2, .ref h1.1.1), (1, .ref ((g, I, P).1.1)), (0, .retAddr 1000)]) dL_law_15 (by decide) rfl rfl (z_iconst (w := 0) dL_law_16 (by decide) (z_istore_n (lv' := [(3, .int 0), (2, .ref h1.1.1), (1, .ref ((g, I, P).1.1)), (0, .retAddr 1000)]) dL_law_17 (by decide) rfl ?_))
  exact z_less [3, 2, 1, 0] rfl H6
set_option maxRecDepth 10000 in
theorem wL_law_18 {g : zG} {I : Nat → Nat → Int32} {P : Nat → Nat → Option Nat} {r : Option Value} {h' : zH} {a1 : Nat} {a2 : Nat} {x3 : Int32} {u : Nat} {v : Nat} {Ls : Nat} {xs : Nat → Int32} (H : (((Int32.ofNat Ls) - 6 < x3) → u ≤ 600000 ∧ v ≤ 7302250 ∧ r = some (.int 1) ∧ h' = (g, I, P)) ∧ ((¬ (Int32.ofNat Ls) - 6 < x3) → vp_in x3 Ls ∧ ((((xs x3.toNatClampNeg) &&& 63) = 0) → vp_in (x3 + 1) Ls ∧ vp_in (x3 + 2) Ls ∧ vp_in (x3 + 3) Ls ∧ vp_in (x3 + 4) Ls ∧ vp_in (x3 + 5) Ls ∧ u ≤ 600000 ∧ v ≤ 7302250 ∧ zk g a1 11 ∧ ∃ (w5 : Int32) (I6 : Nat → Nat → Int32), Cl mX11_feed [.ref a1, .int (xs (x3 + 1).toNatClampNeg), .int (xs (x3 + 2).toNatClampNeg), .int (xs (x3 + 3).toNatClampNeg), .int (xs (x3 + 4).toNatClampNeg), .int (xs (x3 + 5).toNatClampNeg)] (g, I, P) (some (.int w5)) (g, I6, P) ∧ vp_in (x3 + 1) Ls ∧ vp_in (x3 + 2) Ls ∧ vp_in (x3 + 3) Ls ∧ vp_in (x3 + 4) Ls ∧ vp_in (x3 + 5) Ls ∧ u ≤ 600000 ∧ v ≤ 7302250 ∧ zk g a2 12 ∧ ∃ (w9 : Int32) (I10 : Nat → Nat → Int32), Cl mX12_feed [.ref a2, .int (xs (x3 + 1).toNatClampNeg), .int (xs (x3 + 2).toNatClampNeg), .int (xs (x3 + 3).toNatClampNeg), .int (xs (x3 + 4).toNatClampNeg), .int (xs (x3 + 5).toNatClampNeg)] (g, I6, P) (some (.int w9)) (g, I10, P) ∧ ((w5 = w9) → Zt (some (Ls, xs)) mL_law u v 18 [(0, .retAddr 1000), (1, .ref a1), (2, .ref a2), (3, .int (x3 + 6))] [] (g, I10, P) r h') ∧ ((¬ w5 = w9) → u ≤ 600000 ∧ v ≤ 7302250 ∧ r = some (.int 0) ∧ h' = (g, I10, P))) ∧ ((((xs x3.toNatClampNeg) &&& 63) = 1) → vp_in (x3 + 1) Ls ∧ u ≤ 600000 ∧ v ≤ 7302250 ∧ zk g a1 11 ∧ ∃ (w17 : Int32) (I18 : Nat → Nat → Int32), Cl mX11_end [.ref a1, .int (xs (x3 + 1).toNatClampNeg)] (g, I, P) (some (.int w17)) (g, I18, P) ∧ vp_in (x3 + 1) Ls ∧ u ≤ 600000 ∧ v ≤ 7302250 ∧ zk g a2 12 ∧ ∃ (w21 : Int32) (I22 : Nat → Nat → Int32), Cl mX12_end [.ref a2, .int (xs (x3 + 1).toNatClampNeg)] (g, I18, P) (some (.int w21)) (g, I22, P) ∧ ((w17 = w21) → Zt (some (Ls, xs)) mL_law u v 18 [(0, .retAddr 1000), (1, .ref a1), (2, .ref a2), (3, .int (x3 + 6))] [] (g, I22, P) r h') ∧ ((¬ w17 = w21) → u ≤ 600000 ∧ v ≤ 7302250 ∧ r = some (.int 0) ∧ h' = (g, I22, P))) ∧ ((((xs x3.toNatClampNeg) &&& 63) = 2) → vp_in (x3 + 1) Ls ∧ vp_in (x3 + 2) Ls ∧ u ≤ 600000 ∧ v ≤ 7302250 ∧ zk g a1 11 ∧ ∃ (w29 : Int32) (I30 : Nat → Nat → Int32) (P31 : Nat → Nat → Option Nat), Cl mX11_text [.ref a1, .int (xs (x3 + 1).toNatClampNeg), .int (xs (x3 + 2).toNatClampNeg)] (g, I, P) (some (.int w29)) (g, I30, P31) ∧ vp_in (x3 + 1) Ls ∧ vp_in (x3 + 2) Ls ∧ u ≤ 600000 ∧ v ≤ 7302250 ∧ zk g a2 12 ∧ ∃ (w34 : Int32) (I35 : Nat → Nat → Int32), Cl mX12_text [.ref a2, .int (xs (x3 + 1).toNatClampNeg), .int (xs (x3 + 2).toNatClampNeg)] (g, I30, P31) (some (.int w34)) (g, I35, P31) ∧ ((w29 = w34) → Zt (some (Ls, xs)) mL_law u v 18 [(0, .retAddr 1000), (1, .ref a1), (2, .ref a2), (3, .int (x3 + 6))] [] (g, I35, P31) r h') ∧ ((¬ w29 = w34) → u ≤ 600000 ∧ v ≤ 7302250 ∧ r = some (.int 0) ∧ h' = (g, I35, P31))) ∧ ((((xs x3.toNatClampNeg) &&& 63) = 3) → vp_in (x3 + 1) Ls ∧ u ≤ 600000 ∧ v ≤ 7302250 ∧ zk g a1 11 ∧ ∃ (w42 : Int32), Cl mX11_fault [.ref a1, .int (xs (x3 + 1).toNatClampNeg)] (g, I, P) (some (.int w42)) (g, I, P) ∧ vp_in (x3 + 1) Ls ∧ u ≤ 600000 ∧ v ≤ 7302250 ∧ zk g a2 12 ∧ ∃ (w45 : Int32), Cl mX12_fault [.ref a2, .int (xs (x3 + 1).toNatClampNeg)] (g, I, P) (some (.int w45)) (g, I, P) ∧ ((w42 = w45) → Zt (some (Ls, xs)) mL_law u v 18 [(0, .retAddr 1000), (1, .ref a1), (2, .ref a2), (3, .int (x3 + 6))] [] (g, I, P) r h') ∧ ((¬ w42 = w45) → u ≤ 600000 ∧ v ≤ 7302250 ∧ r = some (.int 0) ∧ h' = (g, I, P))) ∧ ((((xs x3.toNatClampNeg) &&& 63) = 4) → vp_in (x3 + 1) Ls ∧ vp_in (x3 + 2) Ls ∧ u ≤ 600000 ∧ v ≤ 7302250 ∧ zk g a1 11 ∧ ∃ (w52 : Int32), Cl mX11_hill [.ref a1, .int (xs (x3 + 1).toNatClampNeg), .int (xs (x3 + 2).toNatClampNeg)] (g, I, P) (some (.int w52)) (g, I, P) ∧ vp_in (x3 + 1) Ls ∧ vp_in (x3 + 2) Ls ∧ u ≤ 600000 ∧ v ≤ 7302250 ∧ zk g a2 12 ∧ ∃ (w55 : Int32) (I56 : Nat → Nat → Int32), Cl mX12_hill [.ref a2, .int (xs (x3 + 1).toNatClampNeg), .int (xs (x3 + 2).toNatClampNeg)] (g, I, P) (some (.int w55)) (g, I56, P) ∧ ((w52 = w55) → Zt (some (Ls, xs)) mL_law u v 18 [(0, .retAddr 1000), (1, .ref a1), (2, .ref a2), (3, .int (x3 + 6))] [] (g, I56, P) r h') ∧ ((¬ w52 = w55) → u ≤ 600000 ∧ v ≤ 7302250 ∧ r = some (.int 0) ∧ h' = (g, I56, P))) ∧ ((((xs x3.toNatClampNeg) &&& 63) = 5) → vp_in (x3 + 1) Ls ∧ vp_in (x3 + 2) Ls ∧ vp_in (x3 + 3) Ls ∧ u ≤ 600000 ∧ v ≤ 7302250 ∧ zk g a1 11 ∧ ∃ (w63 : Int32), Cl mX11_deed [.ref a1, .int (xs (x3 + 1).toNatClampNeg), .int (xs (x3 + 2).toNatClampNeg), .int (xs (x3 + 3).toNatClampNeg)] (g, I, P) (some (.int w63)) (g, I, P) ∧ vp_in (x3 + 1) Ls ∧ vp_in (x3 + 2) Ls ∧ vp_in (x3 + 3) Ls ∧ u ≤ 600000 ∧ v ≤ 7302250 ∧ zk g a2 12 ∧ ∃ (w66 : Int32) (I67 : Nat → Nat → Int32), Cl mX12_deed [.ref a2, .int (xs (x3 + 1).toNatClampNeg), .int (xs (x3 + 2).toNatClampNeg), .int (xs (x3 + 3).toNatClampNeg)] (g, I, P) (some (.int w66)) (g, I67, P) ∧ ((w63 = w66) → Zt (some (Ls, xs)) mL_law u v 18 [(0, .retAddr 1000), (1, .ref a1), (2, .ref a2), (3, .int (x3 + 6))] [] (g, I67, P) r h') ∧ ((¬ w63 = w66) → u ≤ 600000 ∧ v ≤ 7302250 ∧ r = some (.int 0) ∧ h' = (g, I67, P))) ∧ ((((xs x3.toNatClampNeg) &&& 63) = 6) → vp_in (x3 + 1) Ls ∧ vp_in (x3 + 2) Ls ∧ u ≤ 600000 ∧ v ≤ 7302250 ∧ zk g a1 11 ∧ ∃ (w74 : Int32) (I75 : Nat → Nat → Int32) (P76 : Nat → Nat → Option Nat), Cl mX11_stop [.ref a1, .int (xs (x3 + 1).toNatClampNeg), .int (xs (x3 + 2).toNatClampNeg)] (g, I, P) (some (.int w74)) (g, I75, P76) ∧ vp_in (x3 + 1) Ls ∧ vp_in (x3 + 2) Ls ∧ u ≤ 600000 ∧ v ≤ 7302250 ∧ zk g a2 12 ∧ ∃ (w79 : Int32) (I80 : Nat → Nat → Int32), Cl mX12_stop [.ref a2, .int (xs (x3 + 1).toNatClampNeg), .int (xs (x3 + 2).toNatClampNeg)] (g, I75, P76) (some (.int w79)) (g, I80, P76) ∧ ((w74 = w79) → Zt (some (Ls, xs)) mL_law u v 18 [(0, .retAddr 1000), (1, .ref a1), (2, .ref a2), (3, .int (x3 + 6))] [] (g, I80, P76) r h') ∧ ((¬ w74 = w79) → u ≤ 600000 ∧ v ≤ 7302250 ∧ r = some (.int 0) ∧ h' = (g, I80, P76))) ∧ ((((xs x3.toNatClampNeg) &&& 63) = 7) → vp_in (x3 + 1) Ls ∧ vp_in (x3 + 2) Ls ∧ vp_in (x3 + 3) Ls ∧ vp_in (x3 + 4) Ls ∧ u ≤ 600000 ∧ v ≤ 7302250 ∧ zk g a1 11 ∧ ∃ (w87 : Int32) (I88 : Nat → Nat → Int32) (P89 : Nat → Nat → Option Nat), Cl mX11_state [.ref a1, .int (xs (x3 + 1).toNatClampNeg), .int (xs (x3 + 2).toNatClampNeg), .int (xs (x3 + 3).toNatClampNeg), .int (xs (x3 + 4).toNatClampNeg)] (g, I, P) (some (.int w87)) (g, I88, P89) ∧ vp_in (x3 + 1) Ls ∧ vp_in (x3 + 2) Ls ∧ vp_in (x3 + 3) Ls ∧ vp_in (x3 + 4) Ls ∧ u ≤ 600000 ∧ v ≤ 7302250 ∧ zk g a2 12 ∧ ∃ (w92 : Int32) (I93 : Nat → Nat → Int32), Cl mX12_state [.ref a2, .int (xs (x3 + 1).toNatClampNeg), .int (xs (x3 + 2).toNatClampNeg), .int (xs (x3 + 3).toNatClampNeg), .int (xs (x3 + 4).toNatClampNeg)] (g, I88, P89) (some (.int w92)) (g, I93, P89) ∧ ((w87 = w92) → Zt (some (Ls, xs)) mL_law u v 18 [(0, .retAddr 1000), (1, .ref a1), (2, .ref a2), (3, .int (x3 + 6))] [] (g, I93, P89) r h') ∧ ((¬ w87 = w92) → u ≤ 600000 ∧ v ≤ 7302250 ∧ r = some (.int 0) ∧ h' = (g, I93, P89))) ∧ ((((xs x3.toNatClampNeg) &&& 63) = 8) → vp_in (x3 + 1) Ls ∧ vp_in (x3 + 2) Ls ∧ vp_in (x3 + 3) Ls ∧ u ≤ 600000 ∧ v ≤ 7302250 ∧ zk g a1 11 ∧ ∃ (w100 : Int32), Cl mX11_line [.ref a1, .int (xs (x3 + 1).toNatClampNeg), .int (xs (x3 + 2).toNatClampNeg), .int (xs (x3 + 3).toNatClampNeg)] (g, I, P) (some (.int w100)) (g, I, P) ∧ vp_in (x3 + 1) Ls ∧ vp_in (x3 + 2) Ls ∧ vp_in (x3 + 3) Ls ∧ u ≤ 600000 ∧ v ≤ 7302250 ∧ zk g a2 12 ∧ ∃ (w103 : Int32) (I104 : Nat → Nat → Int32), Cl mX12_line [.ref a2, .int (xs (x3 + 1).toNatClampNeg), .int (xs (x3 + 2).toNatClampNeg), .int (xs (x3 + 3).toNatClampNeg)] (g, I, P) (some (.int w103)) (g, I104, P) ∧ ((w100 = w103) → Zt (some (Ls, xs)) mL_law u v 18 [(0, .retAddr 1000), (1, .ref a1), (2, .ref a2), (3, .int (x3 + 6))] [] (g, I104, P) r h') ∧ ((¬ w100 = w103) → u ≤ 600000 ∧ v ≤ 7302250 ∧ r = some (.int 0) ∧ h' = (g, I104, P))) ∧ ((((xs x3.toNatClampNeg) &&& 63) = 9) → vp_in (x3 + 1) Ls ∧ vp_in (x3 + 2) Ls ∧ vp_in (x3 + 3) Ls ∧ vp_in (x3 + 4) Ls ∧ u ≤ 600000 ∧ v ≤ 7302250 ∧ zk g a1 11 ∧ ∃ (w111 : Int32) (I112 : Nat → Nat → Int32) (P113 : Nat → Nat → Option Nat), Cl mX11_said [.ref a1, .int (xs (x3 + 1).toNatClampNeg), .int (xs (x3 + 2).toNatClampNeg), .int (xs (x3 + 3).toNatClampNeg), .int (xs (x3 + 4).toNatClampNeg)] (g, I, P) (some (.int w111)) (g, I112, P113) ∧ vp_in (x3 + 1) Ls ∧ vp_in (x3 + 2) Ls ∧ vp_in (x3 + 3) Ls ∧ vp_in (x3 + 4) Ls ∧ u ≤ 600000 ∧ v ≤ 7302250 ∧ zk g a2 12 ∧ ∃ (w116 : Int32) (I117 : Nat → Nat → Int32), Cl mX12_said [.ref a2, .int (xs (x3 + 1).toNatClampNeg), .int (xs (x3 + 2).toNatClampNeg), .int (xs (x3 + 3).toNatClampNeg), .int (xs (x3 + 4).toNatClampNeg)] (g, I112, P113) (some (.int w116)) (g, I117, P113) ∧ ((w111 = w116) → Zt (some (Ls, xs)) mL_law u v 18 [(0, .retAddr 1000), (1, .ref a1), (2, .ref a2), (3, .int (x3 + 6))] [] (g, I117, P113) r h') ∧ ((¬ w111 = w116) → u ≤ 600000 ∧ v ≤ 7302250 ∧ r = some (.int 0) ∧ h' = (g, I117, P113))) ∧ ((((xs x3.toNatClampNeg) &&& 63) = 10) → vp_in (x3 + 1) Ls ∧ vp_in (x3 + 2) Ls ∧ vp_in (x3 + 3) Ls ∧ vp_in (x3 + 4) Ls ∧ vp_in (x3 + 5) Ls ∧ ((xs (x3 + 5).toNatClampNeg = 0) → Zt (some (Ls, xs)) mL_law u v 618 [(0, .retAddr 1000), (1, .ref a1), (2, .ref a2), (3, .int x3)] [.int 0, .int (xs (x3 + 4).toNatClampNeg), .int (xs (x3 + 3).toNatClampNeg), .int (xs (x3 + 2).toNatClampNeg), .int (xs (x3 + 1).toNatClampNeg), .ref a1] (g, I, P) r h') ∧ ((¬ xs (x3 + 5).toNatClampNeg = 0) → Zt (some (Ls, xs)) mL_law u v 618 [(0, .retAddr 1000), (1, .ref a1), (2, .ref a2), (3, .int x3)] [.int 1, .int (xs (x3 + 4).toNatClampNeg), .int (xs (x3 + 3).toNatClampNeg), .int (xs (x3 + 2).toNatClampNeg), .int (xs (x3 + 1).toNatClampNeg), .ref a1] (g, I, P) r h')) ∧ ((((xs x3.toNatClampNeg) &&& 63) = 11) → vp_in (x3 + 1) Ls ∧ vp_in (x3 + 2) Ls ∧ vp_in (x3 + 3) Ls ∧ vp_in (x3 + 4) Ls ∧ ((xs (x3 + 4).toNatClampNeg = 0) → Zt (some (Ls, xs)) mL_law u v 693 [(0, .retAddr 1000), (1, .ref a1), (2, .ref a2), (3, .int x3)] [.int 0, .int (xs (x3 + 3).toNatClampNeg), .int (xs (x3 + 2).toNatClampNeg), .int (xs (x3 + 1).toNatClampNeg), .ref a1] (g, I, P) r h') ∧ ((¬ xs (x3 + 4).toNatClampNeg = 0) → Zt (some (Ls, xs)) mL_law u v 693 [(0, .retAddr 1000), (1, .ref a1), (2, .ref a2), (3, .int x3)] [.int 1, .int (xs (x3 + 3).toNatClampNeg), .int (xs (x3 + 2).toNatClampNeg), .int (xs (x3 + 1).toNatClampNeg), .ref a1] (g, I, P) r h')) ∧ ((((xs x3.toNatClampNeg) &&& 63) = 12) → vp_in (x3 + 1) Ls ∧ vp_in (x3 + 2) Ls ∧ vp_in (x3 + 3) Ls ∧ vp_in (x3 + 4) Ls ∧ u ≤ 600000 ∧ v ≤ 7302250 ∧ zk g a1 11 ∧ ∃ (w132 : Int32) (I133 : Nat → Nat → Int32) (P134 : Nat → Nat → Option Nat), Cl mX11_reading [.ref a1, .int (xs (x3 + 1).toNatClampNeg), .int (xs (x3 + 2).toNatClampNeg), .int (xs (x3 + 3).toNatClampNeg), .int (xs (x3 + 4).toNatClampNeg)] (g, I, P) (some (.int w132)) (g, I133, P134) ∧ vp_in (x3 + 1) Ls ∧ vp_in (x3 + 2) Ls ∧ vp_in (x3 + 3) Ls ∧ vp_in (x3 + 4) Ls ∧ u ≤ 600000 ∧ v ≤ 7302250 ∧ zk g a2 12 ∧ ∃ (w137 : Int32) (I138 : Nat → Nat → Int32), Cl mX12_reading [.ref a2, .int (xs (x3 + 1).toNatClampNeg), .int (xs (x3 + 2).toNatClampNeg), .int (xs (x3 + 3).toNatClampNeg), .int (xs (x3 + 4).toNatClampNeg)] (g, I133, P134) (some (.int w137)) (g, I138, P134) ∧ ((w132 = w137) → Zt (some (Ls, xs)) mL_law u v 18 [(0, .retAddr 1000), (1, .ref a1), (2, .ref a2), (3, .int (x3 + 6))] [] (g, I138, P134) r h') ∧ ((¬ w132 = w137) → u ≤ 600000 ∧ v ≤ 7302250 ∧ r = some (.int 0) ∧ h' = (g, I138, P134))) ∧ ((((xs x3.toNatClampNeg) &&& 63) = 13) → vp_in (x3 + 1) Ls ∧ vp_in (x3 + 2) Ls ∧ vp_in (x3 + 3) Ls ∧ vp_in (x3 + 4) Ls ∧ u ≤ 600000 ∧ v ≤ 7302250 ∧ zk g a1 11 ∧ ∃ (w145 : Int32) (I146 : Nat → Nat → Int32) (P147 : Nat → Nat → Option Nat), Cl mX11_slips [.ref a1, .int (xs (x3 + 1).toNatClampNeg), .int (xs (x3 + 2).toNatClampNeg), .int (xs (x3 + 3).toNatClampNeg), .int (xs (x3 + 4).toNatClampNeg)] (g, I, P) (some (.int w145)) (g, I146, P147) ∧ vp_in (x3 + 1) Ls ∧ vp_in (x3 + 2) Ls ∧ vp_in (x3 + 3) Ls ∧ vp_in (x3 + 4) Ls ∧ u ≤ 600000 ∧ v ≤ 7302250 ∧ zk g a2 12 ∧ ∃ (w150 : Int32) (I151 : Nat → Nat → Int32), Cl mX12_slips [.ref a2, .int (xs (x3 + 1).toNatClampNeg), .int (xs (x3 + 2).toNatClampNeg), .int (xs (x3 + 3).toNatClampNeg), .int (xs (x3 + 4).toNatClampNeg)] (g, I146, P147) (some (.int w150)) (g, I151, P147) ∧ ((w145 = w150) → Zt (some (Ls, xs)) mL_law u v 18 [(0, .retAddr 1000), (1, .ref a1), (2, .ref a2), (3, .int (x3 + 6))] [] (g, I151, P147) r h') ∧ ((¬ w145 = w150) → u ≤ 600000 ∧ v ≤ 7302250 ∧ r = some (.int 0) ∧ h' = (g, I151, P147))) ∧ ((((xs x3.toNatClampNeg) &&& 63) = 14) → vp_in (x3 + 1) Ls ∧ vp_in (x3 + 2) Ls ∧ vp_in (x3 + 3) Ls ∧ ((xs (x3 + 3).toNatClampNeg = 0) → Zt (some (Ls, xs)) mL_law u v 864 [(0, .retAddr 1000), (1, .ref a1), (2, .ref a2), (3, .int x3)] [.int 0, .int (xs (x3 + 2).toNatClampNeg), .int (xs (x3 + 1).toNatClampNeg), .ref a1] (g, I, P) r h') ∧ ((¬ xs (x3 + 3).toNatClampNeg = 0) → Zt (some (Ls, xs)) mL_law u v 864 [(0, .retAddr 1000), (1, .ref a1), (2, .ref a2), (3, .int x3)] [.int 1, .int (xs (x3 + 2).toNatClampNeg), .int (xs (x3 + 1).toNatClampNeg), .ref a1] (g, I, P) r h')) ∧ ((((xs x3.toNatClampNeg) &&& 63) = 15) → vp_in (x3 + 1) Ls ∧ u ≤ 600000 ∧ v ≤ 7302250 ∧ zk g a1 11 ∧ ∃ (w162 : Int32), Cl mX11_soonest [.ref a1, .int (xs (x3 + 1).toNatClampNeg)] (g, I, P) (some (.int w162)) (g, I, P) ∧ vp_in (x3 + 1) Ls ∧ u ≤ 600000 ∧ v ≤ 7302250 ∧ zk g a2 12 ∧ ∃ (w165 : Int32) (I166 : Nat → Nat → Int32), Cl mX12_soonest [.ref a2, .int (xs (x3 + 1).toNatClampNeg)] (g, I, P) (some (.int w165)) (g, I166, P) ∧ ((w162 = w165) → Zt (some (Ls, xs)) mL_law u v 18 [(0, .retAddr 1000), (1, .ref a1), (2, .ref a2), (3, .int (x3 + 6))] [] (g, I166, P) r h') ∧ ((¬ w162 = w165) → u ≤ 600000 ∧ v ≤ 7302250 ∧ r = some (.int 0) ∧ h' = (g, I166, P))) ∧ ((((xs x3.toNatClampNeg) &&& 63) = 16) → vp_in (x3 + 1) Ls ∧ vp_in (x3 + 2) Ls ∧ u ≤ 600000 ∧ v ≤ 7302250 ∧ zk g a1 11 ∧ ∃ (w173 : Int32) (I174 : Nat → Nat → Int32), Cl mX11_sentences [.ref a1, .int (xs (x3 + 1).toNatClampNeg), .int (xs (x3 + 2).toNatClampNeg)] (g, I, P) (some (.int w173)) (g, I174, P) ∧ vp_in (x3 + 1) Ls ∧ vp_in (x3 + 2) Ls ∧ u ≤ 600000 ∧ v ≤ 7302250 ∧ zk g a2 12 ∧ ∃ (w177 : Int32) (I178 : Nat → Nat → Int32), Cl mX12_sentences [.ref a2, .int (xs (x3 + 1).toNatClampNeg), .int (xs (x3 + 2).toNatClampNeg)] (g, I174, P) (some (.int w177)) (g, I178, P) ∧ ((w173 = w177) → Zt (some (Ls, xs)) mL_law u v 18 [(0, .retAddr 1000), (1, .ref a1), (2, .ref a2), (3, .int (x3 + 6))] [] (g, I178, P) r h') ∧ ((¬ w173 = w177) → u ≤ 600000 ∧ v ≤ 7302250 ∧ r = some (.int 0) ∧ h' = (g, I178, P))) ∧ ((((xs x3.toNatClampNeg) &&& 63) = 17) → vp_in (x3 + 1) Ls ∧ u ≤ 600000 ∧ v ≤ 7302250 ∧ zk g a1 11 ∧ ∃ (w185 : Int32) (I186 : Nat → Nat → Int32), Cl mX11_twice [.ref a1, .int (xs (x3 + 1).toNatClampNeg)] (g, I, P) (some (.int w185)) (g, I186, P) ∧ vp_in (x3 + 1) Ls ∧ u ≤ 600000 ∧ v ≤ 7302250 ∧ zk g a2 12 ∧ ∃ (w189 : Int32) (I190 : Nat → Nat → Int32), Cl mX12_twice [.ref a2, .int (xs (x3 + 1).toNatClampNeg)] (g, I186, P) (some (.int w189)) (g, I190, P) ∧ ((w185 = w189) → Zt (some (Ls, xs)) mL_law u v 18 [(0, .retAddr 1000), (1, .ref a1), (2, .ref a2), (3, .int (x3 + 6))] [] (g, I190, P) r h') ∧ ((¬ w185 = w189) → u ≤ 600000 ∧ v ≤ 7302250 ∧ r = some (.int 0) ∧ h' = (g, I190, P))) ∧ ((((xs x3.toNatClampNeg) &&& 63) = 18) → vp_in (x3 + 1) Ls ∧ vp_in (x3 + 2) Ls ∧ ((xs (x3 + 2).toNatClampNeg = 0) → Zt (some (Ls, xs)) mL_law u v 998 [(0, .retAddr 1000), (1, .ref a1), (2, .ref a2), (3, .int x3)] [.int 0, .int (xs (x3 + 1).toNatClampNeg), .ref a1] (g, I, P) r h') ∧ ((¬ xs (x3 + 2).toNatClampNeg = 0) → Zt (some (Ls, xs)) mL_law u v 998 [(0, .retAddr 1000), (1, .ref a1), (2, .ref a2), (3, .int x3)] [.int 1, .int (xs (x3 + 1).toNatClampNeg), .ref a1] (g, I, P) r h')) ∧ ((((xs x3.toNatClampNeg) &&& 63) = 19) → vp_in (x3 + 1) Ls ∧ vp_in (x3 + 2) Ls ∧ vp_in (x3 + 3) Ls ∧ u ≤ 600000 ∧ v ≤ 7302250 ∧ zk g a1 11 ∧ ∃ (w201 : Int32), Cl mX11_fact [.ref a1, .int (xs (x3 + 1).toNatClampNeg), .int (xs (x3 + 2).toNatClampNeg), .int (xs (x3 + 3).toNatClampNeg)] (g, I, P) (some (.int w201)) (g, I, P) ∧ vp_in (x3 + 1) Ls ∧ vp_in (x3 + 2) Ls ∧ vp_in (x3 + 3) Ls ∧ u ≤ 600000 ∧ v ≤ 7302250 ∧ zk g a2 12 ∧ ∃ (w204 : Int32) (I205 : Nat → Nat → Int32), Cl mX12_fact [.ref a2, .int (xs (x3 + 1).toNatClampNeg), .int (xs (x3 + 2).toNatClampNeg), .int (xs (x3 + 3).toNatClampNeg)] (g, I, P) (some (.int w204)) (g, I205, P) ∧ ((w201 = w204) → Zt (some (Ls, xs)) mL_law u v 18 [(0, .retAddr 1000), (1, .ref a1), (2, .ref a2), (3, .int (x3 + 6))] [] (g, I205, P) r h') ∧ ((¬ w201 = w204) → u ≤ 600000 ∧ v ≤ 7302250 ∧ r = some (.int 0) ∧ h' = (g, I205, P))) ∧ ((((xs x3.toNatClampNeg) &&& 63) = 20) → vp_in (x3 + 1) Ls ∧ vp_in (x3 + 2) Ls ∧ u ≤ 600000 ∧ v ≤ 7302250 ∧ zk g a1 11 ∧ ∃ (w212 : Int32) (I213 : Nat → Nat → Int32) (P214 : Nat → Nat → Option Nat), Cl mX11_forged [.ref a1, .int (xs (x3 + 1).toNatClampNeg), .int (xs (x3 + 2).toNatClampNeg)] (g, I, P) (some (.int w212)) (g, I213, P214) ∧ vp_in (x3 + 1) Ls ∧ vp_in (x3 + 2) Ls ∧ u ≤ 600000 ∧ v ≤ 7302250 ∧ zk g a2 12 ∧ ∃ (w217 : Int32) (I218 : Nat → Nat → Int32), Cl mX12_forged [.ref a2, .int (xs (x3 + 1).toNatClampNeg), .int (xs (x3 + 2).toNatClampNeg)] (g, I213, P214) (some (.int w217)) (g, I218, P214) ∧ ((w212 = w217) → Zt (some (Ls, xs)) mL_law u v 18 [(0, .retAddr 1000), (1, .ref a1), (2, .ref a2), (3, .int (x3 + 6))] [] (g, I218, P214) r h') ∧ ((¬ w212 = w217) → u ≤ 600000 ∧ v ≤ 7302250 ∧ r = some (.int 0) ∧ h' = (g, I218, P214))) ∧ ((((xs x3.toNatClampNeg) &&& 63) = 21) → vp_in (x3 + 1) Ls ∧ vp_in (x3 + 2) Ls ∧ vp_in (x3 + 3) Ls ∧ vp_in (x3 + 4) Ls ∧ ((xs (x3 + 4).toNatClampNeg = 0) → Zt (some (Ls, xs)) mL_law u v 1133 [(0, .retAddr 1000), (1, .ref a1), (2, .ref a2), (3, .int x3)] [.int 0, .int (xs (x3 + 3).toNatClampNeg), .int (xs (x3 + 2).toNatClampNeg), .int (xs (x3 + 1).toNatClampNeg), .ref a1] (g, I, P) r h') ∧ ((¬ xs (x3 + 4).toNatClampNeg = 0) → Zt (some (Ls, xs)) mL_law u v 1133 [(0, .retAddr 1000), (1, .ref a1), (2, .ref a2), (3, .int x3)] [.int 1, .int (xs (x3 + 3).toNatClampNeg), .int (xs (x3 + 2).toNatClampNeg), .int (xs (x3 + 1).toNatClampNeg), .ref a1] (g, I, P) r h')) ∧ ((((xs x3.toNatClampNeg) &&& 63) = 22) → vp_in (x3 + 1) Ls ∧ vp_in (x3 + 2) Ls ∧ vp_in (x3 + 3) Ls ∧ vp_in (x3 + 4) Ls ∧ u ≤ 600000 ∧ v ≤ 7302250 ∧ zk g a1 11 ∧ ∃ (w229 : Int32) (I230 : Nat → Nat → Int32) (P231 : Nat → Nat → Option Nat), Cl mX11_drawn [.ref a1, .int (xs (x3 + 1).toNatClampNeg), .int (xs (x3 + 2).toNatClampNeg), .int (xs (x3 + 3).toNatClampNeg), .int (xs (x3 + 4).toNatClampNeg)] (g, I, P) (some (.int w229)) (g, I230, P231) ∧ vp_in (x3 + 1) Ls ∧ vp_in (x3 + 2) Ls ∧ vp_in (x3 + 3) Ls ∧ vp_in (x3 + 4) Ls ∧ u ≤ 600000 ∧ v ≤ 7302250 ∧ zk g a2 12 ∧ ∃ (w234 : Int32) (I235 : Nat → Nat → Int32), Cl mX12_drawn [.ref a2, .int (xs (x3 + 1).toNatClampNeg), .int (xs (x3 + 2).toNatClampNeg), .int (xs (x3 + 3).toNatClampNeg), .int (xs (x3 + 4).toNatClampNeg)] (g, I230, P231) (some (.int w234)) (g, I235, P231) ∧ ((w229 = w234) → Zt (some (Ls, xs)) mL_law u v 18 [(0, .retAddr 1000), (1, .ref a1), (2, .ref a2), (3, .int (x3 + 6))] [] (g, I235, P231) r h') ∧ ((¬ w229 = w234) → u ≤ 600000 ∧ v ≤ 7302250 ∧ r = some (.int 0) ∧ h' = (g, I235, P231))) ∧ ((((xs x3.toNatClampNeg) &&& 63) = 23) → vp_in (x3 + 1) Ls ∧ vp_in (x3 + 2) Ls ∧ vp_in (x3 + 3) Ls ∧ vp_in (x3 + 4) Ls ∧ u ≤ 600000 ∧ v ≤ 7302250 ∧ zk g a1 11 ∧ ∃ (w242 : Int32) (I243 : Nat → Nat → Int32) (P244 : Nat → Nat → Option Nat), Cl mX11_next [.ref a1, .int (xs (x3 + 1).toNatClampNeg), .int (xs (x3 + 2).toNatClampNeg), .int (xs (x3 + 3).toNatClampNeg), .int (xs (x3 + 4).toNatClampNeg)] (g, I, P) (some (.int w242)) (g, I243, P244) ∧ vp_in (x3 + 1) Ls ∧ vp_in (x3 + 2) Ls ∧ vp_in (x3 + 3) Ls ∧ vp_in (x3 + 4) Ls ∧ u ≤ 600000 ∧ v ≤ 7302250 ∧ zk g a2 12 ∧ ∃ (w247 : Int32) (I248 : Nat → Nat → Int32), Cl mX12_next [.ref a2, .int (xs (x3 + 1).toNatClampNeg), .int (xs (x3 + 2).toNatClampNeg), .int (xs (x3 + 3).toNatClampNeg), .int (xs (x3 + 4).toNatClampNeg)] (g, I243, P244) (some (.int w247)) (g, I248, P244) ∧ ((w242 = w247) → Zt (some (Ls, xs)) mL_law u v 18 [(0, .retAddr 1000), (1, .ref a1), (2, .ref a2), (3, .int (x3 + 6))] [] (g, I248, P244) r h') ∧ ((¬ w242 = w247) → u ≤ 600000 ∧ v ≤ 7302250 ∧ r = some (.int 0) ∧ h' = (g, I248, P244))) ∧ ((((xs x3.toNatClampNeg) &&& 63) = 24) → vp_in (x3 + 1) Ls ∧ vp_in (x3 + 2) Ls ∧ vp_in (x3 + 3) Ls ∧ vp_in (x3 + 4) Ls ∧ ((xs (x3 + 4).toNatClampNeg = 0) → Zt (some (Ls, xs)) mL_law u v 1309 [(0, .retAddr 1000), (1, .ref a1), (2, .ref a2), (3, .int x3)] [.int 0, .int (xs (x3 + 3).toNatClampNeg), .int (xs (x3 + 2).toNatClampNeg), .int (xs (x3 + 1).toNatClampNeg), .ref a1] (g, I, P) r h') ∧ ((¬ xs (x3 + 4).toNatClampNeg = 0) → Zt (some (Ls, xs)) mL_law u v 1309 [(0, .retAddr 1000), (1, .ref a1), (2, .ref a2), (3, .int x3)] [.int 1, .int (xs (x3 + 3).toNatClampNeg), .int (xs (x3 + 2).toNatClampNeg), .int (xs (x3 + 1).toNatClampNeg), .ref a1] (g, I, P) r h')) ∧ ((((xs x3.toNatClampNeg) &&& 63) = 25) → vp_in (x3 + 1) Ls ∧ vp_in (x3 + 2) Ls ∧ vp_in (x3 + 3) Ls ∧ vp_in (x3 + 4) Ls ∧ ((xs (x3 + 4).toNatClampNeg = 0) → Zt (some (Ls, xs)) mL_law u v 1378 [(0, .retAddr 1000), (1, .ref a1), (2, .ref a2), (3, .int x3)] [.int 0, .int (xs (x3 + 3).toNatClampNeg), .int (xs (x3 + 2).toNatClampNeg), .int (xs (x3 + 1).toNatClampNeg), .ref a1] (g, I, P) r h') ∧ ((¬ xs (x3 + 4).toNatClampNeg = 0) → Zt (some (Ls, xs)) mL_law u v 1378 [(0, .retAddr 1000), (1, .ref a1), (2, .ref a2), (3, .int x3)] [.int 1, .int (xs (x3 + 3).toNatClampNeg), .int (xs (x3 + 2).toNatClampNeg), .int (xs (x3 + 1).toNatClampNeg), .ref a1] (g, I, P) r h')) ∧ ((((xs x3.toNatClampNeg) &&& 63) = 26) → vp_in (x3 + 1) Ls ∧ vp_in (x3 + 2) Ls ∧ u ≤ 600000 ∧ v ≤ 7302250 ∧ zk g a1 11 ∧ ∃ (w263 : Int32) (I264 : Nat → Nat → Int32), Cl mX11_tree [.ref a1, .int (xs (x3 + 1).toNatClampNeg), .int (xs (x3 + 2).toNatClampNeg)] (g, I, P) (some (.int w263)) (g, I264, P) ∧ vp_in (x3 + 1) Ls ∧ vp_in (x3 + 2) Ls ∧ u ≤ 600000 ∧ v ≤ 7302250 ∧ zk g a2 12 ∧ ∃ (w267 : Int32) (I268 : Nat → Nat → Int32), Cl mX12_tree [.ref a2, .int (xs (x3 + 1).toNatClampNeg), .int (xs (x3 + 2).toNatClampNeg)] (g, I264, P) (some (.int w267)) (g, I268, P) ∧ ((w263 = w267) → Zt (some (Ls, xs)) mL_law u v 18 [(0, .retAddr 1000), (1, .ref a1), (2, .ref a2), (3, .int (x3 + 6))] [] (g, I268, P) r h') ∧ ((¬ w263 = w267) → u ≤ 600000 ∧ v ≤ 7302250 ∧ r = some (.int 0) ∧ h' = (g, I268, P))) ∧ ((((xs x3.toNatClampNeg) &&& 63) = 27) → vp_in (x3 + 1) Ls ∧ vp_in (x3 + 2) Ls ∧ u ≤ 600000 ∧ v ≤ 7302250 ∧ zk g a1 11 ∧ ∃ (w275 : Int32) (I276 : Nat → Nat → Int32), Cl mX11_chain [.ref a1, .int (xs (x3 + 1).toNatClampNeg), .int (xs (x3 + 2).toNatClampNeg)] (g, I, P) (some (.int w275)) (g, I276, P) ∧ vp_in (x3 + 1) Ls ∧ vp_in (x3 + 2) Ls ∧ u ≤ 600000 ∧ v ≤ 7302250 ∧ zk g a2 12 ∧ ∃ (w279 : Int32) (I280 : Nat → Nat → Int32), Cl mX12_chain [.ref a2, .int (xs (x3 + 1).toNatClampNeg), .int (xs (x3 + 2).toNatClampNeg)] (g, I276, P) (some (.int w279)) (g, I280, P) ∧ ((w275 = w279) → Zt (some (Ls, xs)) mL_law u v 18 [(0, .retAddr 1000), (1, .ref a1), (2, .ref a2), (3, .int (x3 + 6))] [] (g, I280, P) r h') ∧ ((¬ w275 = w279) → u ≤ 600000 ∧ v ≤ 7302250 ∧ r = some (.int 0) ∧ h' = (g, I280, P))) ∧ ((((xs x3.toNatClampNeg) &&& 63) = 28) → vp_in (x3 + 1) Ls ∧ vp_in (x3 + 2) Ls ∧ vp_in (x3 + 3) Ls ∧ u ≤ 600000 ∧ v ≤ 7302250 ∧ zk g a1 11 ∧ ∃ (w287 : Int32) (I288 : Nat → Nat → Int32) (P289 : Nat → Nat → Option Nat), Cl mX11_after [.ref a1, .int (xs (x3 + 1).toNatClampNeg), .int (xs (x3 + 2).toNatClampNeg), .int (xs (x3 + 3).toNatClampNeg)] (g, I, P) (some (.int w287)) (g, I288, P289) ∧ vp_in (x3 + 1) Ls ∧ vp_in (x3 + 2) Ls ∧ vp_in (x3 + 3) Ls ∧ u ≤ 600000 ∧ v ≤ 7302250 ∧ zk g a2 12 ∧ ∃ (w292 : Int32) (I293 : Nat → Nat → Int32), Cl mX12_after [.ref a2, .int (xs (x3 + 1).toNatClampNeg), .int (xs (x3 + 2).toNatClampNeg), .int (xs (x3 + 3).toNatClampNeg)] (g, I288, P289) (some (.int w292)) (g, I293, P289) ∧ ((w287 = w292) → Zt (some (Ls, xs)) mL_law u v 18 [(0, .retAddr 1000), (1, .ref a1), (2, .ref a2), (3, .int (x3 + 6))] [] (g, I293, P289) r h') ∧ ((¬ w287 = w292) → u ≤ 600000 ∧ v ≤ 7302250 ∧ r = some (.int 0) ∧ h' = (g, I293, P289))) ∧ ((((xs x3.toNatClampNeg) &&& 63) = 29) → vp_in (x3 + 1) Ls ∧ vp_in (x3 + 2) Ls ∧ ((xs (x3 + 2).toNatClampNeg = 0) → Zt (some (Ls, xs)) mL_law u v 1546 [(0, .retAddr 1000), (1, .ref a1), (2, .ref a2), (3, .int x3)] [.int 0, .int (xs (x3 + 1).toNatClampNeg), .ref a1] (g, I, P) r h') ∧ ((¬ xs (x3 + 2).toNatClampNeg = 0) → Zt (some (Ls, xs)) mL_law u v 1546 [(0, .retAddr 1000), (1, .ref a1), (2, .ref a2), (3, .int x3)] [.int 1, .int (xs (x3 + 1).toNatClampNeg), .ref a1] (g, I, P) r h')) ∧ ((((xs x3.toNatClampNeg) &&& 63) = 30) → vp_in (x3 + 1) Ls ∧ vp_in (x3 + 2) Ls ∧ vp_in (x3 + 3) Ls ∧ ((xs (x3 + 3).toNatClampNeg = 0) → Zt (some (Ls, xs)) mL_law u v 1600 [(0, .retAddr 1000), (1, .ref a1), (2, .ref a2), (3, .int x3)] [.int 0, .int (xs (x3 + 2).toNatClampNeg), .int (xs (x3 + 1).toNatClampNeg), .ref a1] (g, I, P) r h') ∧ ((¬ xs (x3 + 3).toNatClampNeg = 0) → Zt (some (Ls, xs)) mL_law u v 1600 [(0, .retAddr 1000), (1, .ref a1), (2, .ref a2), (3, .int x3)] [.int 1, .int (xs (x3 + 2).toNatClampNeg), .int (xs (x3 + 1).toNatClampNeg), .ref a1] (g, I, P) r h')) ∧ ((((xs x3.toNatClampNeg) &&& 63) = 31) → vp_in (x3 + 1) Ls ∧ u ≤ 600000 ∧ v ≤ 7302250 ∧ zk g a1 11 ∧ ∃ (w308 : Int32), Cl mX11_count [.ref a1, .int (xs (x3 + 1).toNatClampNeg)] (g, I, P) (some (.int w308)) (g, I, P) ∧ vp_in (x3 + 1) Ls ∧ u ≤ 600000 ∧ v ≤ 7302250 ∧ zk g a2 12 ∧ ∃ (w311 : Int32), Cl mX12_count [.ref a2, .int (xs (x3 + 1).toNatClampNeg)] (g, I, P) (some (.int w311)) (g, I, P) ∧ ((w308 = w311) → Zt (some (Ls, xs)) mL_law u v 18 [(0, .retAddr 1000), (1, .ref a1), (2, .ref a2), (3, .int (x3 + 6))] [] (g, I, P) r h') ∧ ((¬ w308 = w311) → u ≤ 600000 ∧ v ≤ 7302250 ∧ r = some (.int 0) ∧ h' = (g, I, P))) ∧ ((((xs x3.toNatClampNeg) &&& 63) = 32) → vp_in (x3 + 1) Ls ∧ u + 39 ≤ 600000 ∧ v + 1279 ≤ 7302250 ∧ zk g a1 11 ∧ ∃ (w318 : Int32) (h319 : zH), Cl mX11_image [.ref a1, .int (xs (x3 + 1).toNatClampNeg)] (g, I, P) (some (.int w318)) h319 ∧ vp_in (x3 + 1) Ls ∧ (u + 39) ≤ 600000 ∧ (v + 1279) ≤ 7302250 ∧ zk h319.1 a2 12 ∧ ∃ (w322 : Int32) (I323 : Nat → Nat → Int32), Cl mX12_image [.ref a2, .int (xs (x3 + 1).toNatClampNeg)] h319 (some (.int w322)) (h319.1, I323, h319.2.2) ∧ ((w318 = w322) → Zt (some (Ls, xs)) mL_law (u + 39) (v + 1279) 18 [(0, .retAddr 1000), (1, .ref a1), (2, .ref a2), (3, .int (x3 + 6))] [] (h319.1, I323, h319.2.2) r h') ∧ ((¬ w318 = w322) → (u + 39) ≤ 600000 ∧ (v + 1279) ≤ 7302250 ∧ r = some (.int 0) ∧ h' = (h319.1, I323, h319.2.2))) ∧ ((((xs x3.toNatClampNeg) &&& 63) = 33) → vp_in (x3 + 1) Ls ∧ u ≤ 600000 ∧ v ≤ 7302250 ∧ zk g a1 11 ∧ ∃ (w330 : Int32) (I331 : Nat → Nat → Int32), Cl mX11_again [.ref a1, .int (xs (x3 + 1).toNatClampNeg)] (g, I, P) (some (.int w330)) (g, I331, P) ∧ vp_in (x3 + 1) Ls ∧ u ≤ 600000 ∧ v ≤ 7302250 ∧ zk g a2 12 ∧ ∃ (w334 : Int32) (I335 : Nat → Nat → Int32), Cl mX12_again [.ref a2, .int (xs (x3 + 1).toNatClampNeg)] (g, I331, P) (some (.int w334)) (g, I335, P) ∧ ((w330 = w334) → Zt (some (Ls, xs)) mL_law u v 18 [(0, .retAddr 1000), (1, .ref a1), (2, .ref a2), (3, .int (x3 + 6))] [] (g, I335, P) r h') ∧ ((¬ w330 = w334) → u ≤ 600000 ∧ v ≤ 7302250 ∧ r = some (.int 0) ∧ h' = (g, I335, P))) ∧ (¬ ((xs x3.toNatClampNeg) &&& 63) = 0 → ¬ ((xs x3.toNatClampNeg) &&& 63) = 1 → ¬ ((xs x3.toNatClampNeg) &&& 63) = 2 → ¬ ((xs x3.toNatClampNeg) &&& 63) = 3 → ¬ ((xs x3.toNatClampNeg) &&& 63) = 4 → ¬ ((xs x3.toNatClampNeg) &&& 63) = 5 → ¬ ((xs x3.toNatClampNeg) &&& 63) = 6 → ¬ ((xs x3.toNatClampNeg) &&& 63) = 7 → ¬ ((xs x3.toNatClampNeg) &&& 63) = 8 → ¬ ((xs x3.toNatClampNeg) &&& 63) = 9 → ¬ ((xs x3.toNatClampNeg) &&& 63) = 10 → ¬ ((xs x3.toNatClampNeg) &&& 63) = 11 → ¬ ((xs x3.toNatClampNeg) &&& 63) = 12 → ¬ ((xs x3.toNatClampNeg) &&& 63) = 13 → ¬ ((xs x3.toNatClampNeg) &&& 63) = 14 → ¬ ((xs x3.toNatClampNeg) &&& 63) = 15 → ¬ ((xs x3.toNatClampNeg) &&& 63) = 16 → ¬ ((xs x3.toNatClampNeg) &&& 63) = 17 → ¬ ((xs x3.toNatClampNeg) &&& 63) = 18 → ¬ ((xs x3.toNatClampNeg) &&& 63) = 19 → ¬ ((xs x3.toNatClampNeg) &&& 63) = 20 → ¬ ((xs x3.toNatClampNeg) &&& 63) = 21 → ¬ ((xs x3.toNatClampNeg) &&& 63) = 22 → ¬ ((xs x3.toNatClampNeg) &&& 63) = 23 → ¬ ((xs x3.toNatClampNeg) &&& 63) = 24 → ¬ ((xs x3.toNatClampNeg) &&& 63) = 25 → ¬ ((xs x3.toNatClampNeg) &&& 63) = 26 → ¬ ((xs x3.toNatClampNeg) &&& 63) = 27 → ¬ ((xs x3.toNatClampNeg) &&& 63) = 28 → ¬ ((xs x3.toNatClampNeg) &&& 63) = 29 → ¬ ((xs x3.toNatClampNeg) &&& 63) = 30 → ¬ ((xs x3.toNatClampNeg) &&& 63) = 31 → ¬ ((xs x3.toNatClampNeg) &&& 63) = 32 → ¬ ((xs x3.toNatClampNeg) &&& 63) = 33 → Zt (some (Ls, xs)) mL_law u v 18 [(0, .retAddr 1000), (1, .ref a1), (2, .ref a2), (3, .int (x3 + 6))] [] (g, I, P) r h'))) : Zt (some (Ls, xs)) mL_law u v 18 [(0, .retAddr 1000), (1, .ref a1), (2, .ref a2), (3, .int x3)] [] (g, I, P) r h' := by
  refine z_iload_n 3 dL_law_18 rfl (z_aload_n 0 dL_law_19 rfl rfl (z_slen rfl dL_law_20 (z_bipush (w := 6) dL_law_21 (by decide) (z_isub dL_law_23 ?_))))
  refine z_icmp_gt (t := 1711) dL_law_24 (by decide) (fun q => ?_) (fun q => ?_)
  · have H1 := H.1 q
    refine z_iconst (w := 1) dL_law_1711 (by decide) ?_
    obtain ⟨hu, hv, rfl, rfl⟩ := H1
    exact z_zret dL_law_1712 rfl (Or.inr rfl) hu hv
  · have H2 := H.2 q
    refine z_aload_n 0 dL_law_27 rfl rfl (z_iload_n 3 dL_law_28 rfl (z_sld rfl dL_law_29 H2.1 (z_bipush (w := 63) dL_law_30 (by decide) (z_iand dL_law_32 ?_))))
    by_cases q3 : ((xs x3.toNatClampNeg) &&& 63) = 0
    · have H4 := H2.2.1 q3
      have eq3 : (((xs x3.toNatClampNeg) &&& 63) : Int32).toInt = 0 := by rw [q3]; decide
      refine z_tableIn (off := 151) (t := 184) dL_law_33 (by rw [eq3]; decide) (by rw [eq3]; decide) (by rw [eq3]; rfl) (by decide) ?_
      refine z_aload_n 1 dL_law_184 rfl rfl (z_aload_n 0 dL_law_185 rfl rfl (z_iload_n 3 dL_law_186 rfl (z_iconst (w := 1) dL_law_187 (by decide) (z_iadd dL_law_188 (z_sld rfl dL_law_189 H4.1 (z_aload_n 0 dL_law_190 rfl rfl (z_iload_n 3 dL_law_191 rfl (z_iconst (w := 2) dL_law_192 (by decide) (z_iadd dL_law_193 (z_sld rfl dL_law_194 H4.2.1 (z_aload_n 0 dL_law_195 rfl rfl (z_iload_n 3 dL_law_196 rfl (z_iconst (w := 3) dL_law_197 (by decide) (z_iadd dL_law_198 (z_sld rfl dL_law_199 H4.2.2.1 (z_aload_n 0 dL_law_200 rfl rfl (z_iload_n 3 dL_law_201 rfl (z_iconst (w := 4) dL_law_202 (by decide) (z_iadd dL_law_203 (z_sld rfl dL_law_204 H4.2.2.2.1 (z_aload_n 0 dL_law_205 rfl rfl (z_iload_n 3 dL_law_206 rfl (z_iconst (w := 5) dL_law_207 (by decide) (z_iadd dL_law_208 (z_sld rfl dL_law_209 H4.2.2.2.2.1 ?_)))))))))))))))))))))))))
      obtain ⟨huc7, hvc7, oc7, w5, I6, c7, H8⟩ := H4.2.2.2.2.2
      refine z_virt (As := [.int (xs (x3 + 1).toNatClampNeg), .int (xs (x3 + 2).toNatClampNeg), .int (xs (x3 + 3).toNatClampNeg), .int (xs (x3 + 4).toNatClampNeg), .int (xs (x3 + 5).toNatClampNeg)]) (st := []) (r1 := (some (.int w5))) (h1 := (g, I6, P)) dL_law_210 kX11_feed wm_L_13 ⟨by decide, by decide⟩ rfl rfl (Nat.le_of_ble_eq_true rfl) huc7 hvc7 oc7 c7 ?_
      refine z_aload_n 2 dL_law_213 rfl rfl (z_aload_n 0 dL_law_214 rfl rfl (z_iload_n 3 dL_law_215 rfl (z_iconst (w := 1) dL_law_216 (by decide) (z_iadd dL_law_217 (z_sld rfl dL_law_218 H8.1 (z_aload_n 0 dL_law_219 rfl rfl (z_iload_n 3 dL_law_220 rfl (z_iconst (w := 2) dL_law_221 (by decide) (z_iadd dL_law_222 (z_sld rfl dL_law_223 H8.2.1 (z_aload_n 0 dL_law_224 rfl rfl (z_iload_n 3 dL_law_225 rfl (z_iconst (w := 3) dL_law_226 (by decide) (z_iadd dL_law_227 (z_sld rfl dL_law_228 H8.2.2.1 (z_aload_n 0 dL_law_229 rfl rfl (z_iload_n 3 dL_law_230 rfl (z_iconst (w := 4) dL_law_231 (by decide) (z_iadd dL_law_232 (z_sld rfl dL_law_233 H8.2.2.2.1 (z_aload_n 0 dL_law_234 rfl rfl (z_iload_n 3 dL_law_235 rfl (z_iconst (w := 5) dL_law_236 (by decide) (z_iadd dL_law_237 (z_sld rfl dL_law_238 H8.2.2.2.2.1 ?_)))))))))))))))))))))))))
      obtain ⟨huc11, hvc11, oc11, w9, I10, c11, H12⟩ := H8.2.2.2.2.2
      refine z_virt (As := [.int (xs (x3 + 1).toNatClampNeg), .int (xs (x3 + 2).toNatClampNeg), .int (xs (x3 + 3).toNatClampNeg), .int (xs (x3 + 4).toNatClampNeg), .int (xs (x3 + 5).toNatClampNeg)]) (st := [.int w5]) (r1 := (some (.int w9))) (h1 := (g, I10, P)) dL_law_239 kX12_feed wm_L_17 ⟨by decide, by decide⟩ rfl rfl (Nat.le_of_ble_eq_true rfl) huc11 hvc11 oc11 c11 ?_
      refine z_icmp_eq (t := 1705) dL_law_242 (by decide) (fun q => ?_) (fun q => ?_)
      · have H13 := H12.1 q
        refine z_iinc (y := x3 + 6) (lv' := [(3, .int (x3 + 6)), (0, .retAddr 1000), (1, .ref a1), (2, .ref a2)]) 3 dL_law_1705 rfl rfl (by decide) rfl (z_goto (t := 18) dL_law_1708 (by decide) ?_)
        exact z_less [1, 2, 3, 0] rfl H13
      · have H14 := H12.2 q
        refine z_iconst (w := 0) dL_law_245 (by decide) ?_
        obtain ⟨hu, hv, rfl, rfl⟩ := H14
        exact z_zret dL_law_246 rfl (Or.inl rfl) hu hv
    by_cases q15 : ((xs x3.toNatClampNeg) &&& 63) = 1
    · have H16 := H2.2.2.1 q15
      have eq15 : (((xs x3.toNatClampNeg) &&& 63) : Int32).toInt = 1 := by rw [q15]; decide
      refine z_tableIn (off := 214) (t := 247) dL_law_33 (by rw [eq15]; decide) (by rw [eq15]; decide) (by rw [eq15]; rfl) (by decide) ?_
      refine z_aload_n 1 dL_law_247 rfl rfl (z_aload_n 0 dL_law_248 rfl rfl (z_iload_n 3 dL_law_249 rfl (z_iconst (w := 1) dL_law_250 (by decide) (z_iadd dL_law_251 (z_sld rfl dL_law_252 H16.1 ?_)))))
      obtain ⟨huc19, hvc19, oc19, w17, I18, c19, H20⟩ := H16.2
      refine z_virt (As := [.int (xs (x3 + 1).toNatClampNeg)]) (st := []) (r1 := (some (.int w17))) (h1 := (g, I18, P)) dL_law_253 kX11_end wm_L_18 ⟨by decide, by decide⟩ rfl rfl (Nat.le_of_ble_eq_true rfl) huc19 hvc19 oc19 c19 ?_
      refine z_aload_n 2 dL_law_256 rfl rfl (z_aload_n 0 dL_law_257 rfl rfl (z_iload_n 3 dL_law_258 rfl (z_iconst (w := 1) dL_law_259 (by decide) (z_iadd dL_law_260 (z_sld rfl dL_law_261 H20.1 ?_)))))
      obtain ⟨huc23, hvc23, oc23, w21, I22, c23, H24⟩ := H20.2
      refine z_virt (As := [.int (xs (x3 + 1).toNatClampNeg)]) (st := [.int w17]) (r1 := (some (.int w21))) (h1 := (g, I22, P)) dL_law_262 kX12_end wm_L_22 ⟨by decide, by decide⟩ rfl rfl (Nat.le_of_ble_eq_true rfl) huc23 hvc23 oc23 c23 ?_
      refine z_icmp_eq (t := 1705) dL_law_265 (by decide) (fun q => ?_) (fun q => ?_)
      · have H25 := H24.1 q
        refine z_iinc (y := x3 + 6) (lv' := [(3, .int (x3 + 6)), (0, .retAddr 1000), (1, .ref a1), (2, .ref a2)]) 3 dL_law_1705 rfl rfl (by decide) rfl (z_goto (t := 18) dL_law_1708 (by decide) ?_)
        exact z_less [1, 2, 3, 0] rfl H25
      · have H26 := H24.2 q
        refine z_iconst (w := 0) dL_law_268 (by decide) ?_
        obtain ⟨hu, hv, rfl, rfl⟩ := H26
        exact z_zret dL_law_269 rfl (Or.inl rfl) hu hv
    by_cases q27 : ((xs x3.toNatClampNeg) &&& 63) = 2
    · have H28 := H2.2.2.2.1 q27
      have eq27 : (((xs x3.toNatClampNeg) &&& 63) : Int32).toInt = 2 := by rw [q27]; decide
      refine z_tableIn (off := 237) (t := 270) dL_law_33 (by rw [eq27]; decide) (by rw [eq27]; decide) (by rw [eq27]; rfl) (by decide) ?_
      refine z_aload_n 1 dL_law_270 rfl rfl (z_aload_n 0 dL_law_271 rfl rfl (z_iload_n 3 dL_law_272 rfl (z_iconst (w := 1) dL_law_273 (by decide) (z_iadd dL_law_274 (z_sld rfl dL_law_275 H28.1 (z_aload_n 0 dL_law_276 rfl rfl (z_iload_n 3 dL_law_277 rfl (z_iconst (w := 2) dL_law_278 (by decide) (z_iadd dL_law_279 (z_sld rfl dL_law_280 H28.2.1 ?_))))))))))
      obtain ⟨huc32, hvc32, oc32, w29, I30, P31, c32, H33⟩ := H28.2.2
      refine z_virt (As := [.int (xs (x3 + 1).toNatClampNeg), .int (xs (x3 + 2).toNatClampNeg)]) (st := []) (r1 := (some (.int w29))) (h1 := (g, I30, P31)) dL_law_281 kX11_text wm_L_23 ⟨by decide, by decide⟩ rfl rfl (Nat.le_of_ble_eq_true rfl) huc32 hvc32 oc32 c32 ?_
      refine z_aload_n 2 dL_law_284 rfl rfl (z_aload_n 0 dL_law_285 rfl rfl (z_iload_n 3 dL_law_286 rfl (z_iconst (w := 1) dL_law_287 (by decide) (z_iadd dL_law_288 (z_sld rfl dL_law_289 H33.1 (z_aload_n 0 dL_law_290 rfl rfl (z_iload_n 3 dL_law_291 rfl (z_iconst (w := 2) dL_law_292 (by decide) (z_iadd dL_law_293 (z_sld rfl dL_law_294 H33.2.1 ?_))))))))))
      obtain ⟨huc36, hvc36, oc36, w34, I35, c36, H37⟩ := H33.2.2
      refine z_virt (As := [.int (xs (x3 + 1).toNatClampNeg), .int (xs (x3 + 2).toNatClampNeg)]) (st := [.int w29]) (r1 := (some (.int w34))) (h1 := (g, I35, P31)) dL_law_295 kX12_text wm_L_27 ⟨by decide, by decide⟩ rfl rfl (Nat.le_of_ble_eq_true rfl) huc36 hvc36 oc36 c36 ?_
      refine z_icmp_eq (t := 1705) dL_law_298 (by decide) (fun q => ?_) (fun q => ?_)
      · have H38 := H37.1 q
        refine z_iinc (y := x3 + 6) (lv' := [(3, .int (x3 + 6)), (0, .retAddr 1000), (1, .ref a1), (2, .ref a2)]) 3 dL_law_1705 rfl rfl (by decide) rfl (z_goto (t := 18) dL_law_1708 (by decide) ?_)
        exact z_less [1, 2, 3, 0] rfl H38
      · have H39 := H37.2 q
        refine z_iconst (w := 0) dL_law_301 (by decide) ?_
        obtain ⟨hu, hv, rfl, rfl⟩ := H39
        exact z_zret dL_law_302 rfl (Or.inl rfl) hu hv
    by_cases q40 : ((xs x3.toNatClampNeg) &&& 63) = 3
    · have H41 := H2.2.2.2.2.1 q40
      have eq40 : (((xs x3.toNatClampNeg) &&& 63) : Int32).toInt = 3 := by rw [q40]; decide
      refine z_tableIn (off := 270) (t := 303) dL_law_33 (by rw [eq40]; decide) (by rw [eq40]; decide) (by rw [eq40]; rfl) (by decide) ?_
      refine z_aload_n 1 dL_law_303 rfl rfl (z_aload_n 0 dL_law_304 rfl rfl (z_iload_n 3 dL_law_305 rfl (z_iconst (w := 1) dL_law_306 (by decide) (z_iadd dL_law_307 (z_sld rfl dL_law_308 H41.1 ?_)))))
      obtain ⟨huc43, hvc43, oc43, w42, c43, H44⟩ := H41.2
      refine z_virt (As := [.int (xs (x3 + 1).toNatClampNeg)]) (st := []) (r1 := (some (.int w42))) (h1 := (g, I, P)) dL_law_309 kX11_fault wm_L_28 ⟨by decide, by decide⟩ rfl rfl (Nat.le_of_ble_eq_true rfl) huc43 hvc43 oc43 c43 ?_
      refine z_aload_n 2 dL_law_312 rfl rfl (z_aload_n 0 dL_law_313 rfl rfl (z_iload_n 3 dL_law_314 rfl (z_iconst (w := 1) dL_law_315 (by decide) (z_iadd dL_law_316 (z_sld rfl dL_law_317 H44.1 ?_)))))
      obtain ⟨huc46, hvc46, oc46, w45, c46, H47⟩ := H44.2
      refine z_virt (As := [.int (xs (x3 + 1).toNatClampNeg)]) (st := [.int w42]) (r1 := (some (.int w45))) (h1 := (g, I, P)) dL_law_318 kX12_fault wm_L_31 ⟨by decide, by decide⟩ rfl rfl (Nat.le_of_ble_eq_true rfl) huc46 hvc46 oc46 c46 ?_
      refine z_icmp_eq (t := 1705) dL_law_321 (by decide) (fun q => ?_) (fun q => ?_)
      · have H48 := H47.1 q
        refine z_iinc (y := x3 + 6) (lv' := [(3, .int (x3 + 6)), (0, .retAddr 1000), (1, .ref a1), (2, .ref a2)]) 3 dL_law_1705 rfl rfl (by decide) rfl (z_goto (t := 18) dL_law_1708 (by decide) ?_)
        exact z_less [1, 2, 3, 0] rfl H48
      · have H49 := H47.2 q
        refine z_iconst (w := 0) dL_law_324 (by decide) ?_
        obtain ⟨hu, hv, rfl, rfl⟩ := H49
        exact z_zret dL_law_325 rfl (Or.inl rfl) hu hv
    by_cases q50 : ((xs x3.toNatClampNeg) &&& 63) = 4
    · have H51 := H2.2.2.2.2.2.1 q50
      have eq50 : (((xs x3.toNatClampNeg) &&& 63) : Int32).toInt = 4 := by rw [q50]; decide
      refine z_tableIn (off := 293) (t := 326) dL_law_33 (by rw [eq50]; decide) (by rw [eq50]; decide) (by rw [eq50]; rfl) (by decide) ?_
      refine z_aload_n 1 dL_law_326 rfl rfl (z_aload_n 0 dL_law_327 rfl rfl (z_iload_n 3 dL_law_328 rfl (z_iconst (w := 1) dL_law_329 (by decide) (z_iadd dL_law_330 (z_sld rfl dL_law_331 H51.1 (z_aload_n 0 dL_law_332 rfl rfl (z_iload_n 3 dL_law_333 rfl (z_iconst (w := 2) dL_law_334 (by decide) (z_iadd dL_law_335 (z_sld rfl dL_law_336 H51.2.1 ?_))))))))))
      obtain ⟨huc53, hvc53, oc53, w52, c53, H54⟩ := H51.2.2
      refine z_virt (As := [.int (xs (x3 + 1).toNatClampNeg), .int (xs (x3 + 2).toNatClampNeg)]) (st := []) (r1 := (some (.int w52))) (h1 := (g, I, P)) dL_law_337 kX11_hill wm_L_32 ⟨by decide, by decide⟩ rfl rfl (Nat.le_of_ble_eq_true rfl) huc53 hvc53 oc53 c53 ?_
      refine z_aload_n 2 dL_law_340 rfl rfl (z_aload_n 0 dL_law_341 rfl rfl (z_iload_n 3 dL_law_342 rfl (z_iconst (w := 1) dL_law_343 (by decide) (z_iadd dL_law_344 (z_sld rfl dL_law_345 H54.1 (z_aload_n 0 dL_law_346 rfl rfl (z_iload_n 3 dL_law_347 rfl (z_iconst (w := 2) dL_law_348 (by decide) (z_iadd dL_law_349 (z_sld rfl dL_law_350 H54.2.1 ?_))))))))))
      obtain ⟨huc57, hvc57, oc57, w55, I56, c57, H58⟩ := H54.2.2
      refine z_virt (As := [.int (xs (x3 + 1).toNatClampNeg), .int (xs (x3 + 2).toNatClampNeg)]) (st := [.int w52]) (r1 := (some (.int w55))) (h1 := (g, I56, P)) dL_law_351 kX12_hill wm_L_35 ⟨by decide, by decide⟩ rfl rfl (Nat.le_of_ble_eq_true rfl) huc57 hvc57 oc57 c57 ?_
      refine z_icmp_eq (t := 1705) dL_law_354 (by decide) (fun q => ?_) (fun q => ?_)
      · have H59 := H58.1 q
        refine z_iinc (y := x3 + 6) (lv' := [(3, .int (x3 + 6)), (0, .retAddr 1000), (1, .ref a1), (2, .ref a2)]) 3 dL_law_1705 rfl rfl (by decide) rfl (z_goto (t := 18) dL_law_1708 (by decide) ?_)
        exact z_less [1, 2, 3, 0] rfl H59
      · have H60 := H58.2 q
        refine z_iconst (w := 0) dL_law_357 (by decide) ?_
        obtain ⟨hu, hv, rfl, rfl⟩ := H60
        exact z_zret dL_law_358 rfl (Or.inl rfl) hu hv
    by_cases q61 : ((xs x3.toNatClampNeg) &&& 63) = 5
    · have H62 := H2.2.2.2.2.2.2.1 q61
      have eq61 : (((xs x3.toNatClampNeg) &&& 63) : Int32).toInt = 5 := by rw [q61]; decide
      refine z_tableIn (off := 326) (t := 359) dL_law_33 (by rw [eq61]; decide) (by rw [eq61]; decide) (by rw [eq61]; rfl) (by decide) ?_
      refine z_aload_n 1 dL_law_359 rfl rfl (z_aload_n 0 dL_law_360 rfl rfl (z_iload_n 3 dL_law_361 rfl (z_iconst (w := 1) dL_law_362 (by decide) (z_iadd dL_law_363 (z_sld rfl dL_law_364 H62.1 (z_aload_n 0 dL_law_365 rfl rfl (z_iload_n 3 dL_law_366 rfl (z_iconst (w := 2) dL_law_367 (by decide) (z_iadd dL_law_368 (z_sld rfl dL_law_369 H62.2.1 (z_aload_n 0 dL_law_370 rfl rfl (z_iload_n 3 dL_law_371 rfl (z_iconst (w := 3) dL_law_372 (by decide) (z_iadd dL_law_373 (z_sld rfl dL_law_374 H62.2.2.1 ?_)))))))))))))))
      obtain ⟨huc64, hvc64, oc64, w63, c64, H65⟩ := H62.2.2.2
      refine z_virt (As := [.int (xs (x3 + 1).toNatClampNeg), .int (xs (x3 + 2).toNatClampNeg), .int (xs (x3 + 3).toNatClampNeg)]) (st := []) (r1 := (some (.int w63))) (h1 := (g, I, P)) dL_law_375 kX11_deed wm_L_36 ⟨by decide, by decide⟩ rfl rfl (Nat.le_of_ble_eq_true rfl) huc64 hvc64 oc64 c64 ?_
      refine z_aload_n 2 dL_law_378 rfl rfl (z_aload_n 0 dL_law_379 rfl rfl (z_iload_n 3 dL_law_380 rfl (z_iconst (w := 1) dL_law_381 (by decide) (z_iadd dL_law_382 (z_sld rfl dL_law_383 H65.1 (z_aload_n 0 dL_law_384 rfl rfl (z_iload_n 3 dL_law_385 rfl (z_iconst (w := 2) dL_law_386 (by decide) (z_iadd dL_law_387 (z_sld rfl dL_law_388 H65.2.1 (z_aload_n 0 dL_law_389 rfl rfl (z_iload_n 3 dL_law_390 rfl (z_iconst (w := 3) dL_law_391 (by decide) (z_iadd dL_law_392 (z_sld rfl dL_law_393 H65.2.2.1 ?_)))))))))))))))
      obtain ⟨huc68, hvc68, oc68, w66, I67, c68, H69⟩ := H65.2.2.2
      refine z_virt (As := [.int (xs (x3 + 1).toNatClampNeg), .int (xs (x3 + 2).toNatClampNeg), .int (xs (x3 + 3).toNatClampNeg)]) (st := [.int w63]) (r1 := (some (.int w66))) (h1 := (g, I67, P)) dL_law_394 kX12_deed wm_L_40 ⟨by decide, by decide⟩ rfl rfl (Nat.le_of_ble_eq_true rfl) huc68 hvc68 oc68 c68 ?_
      refine z_icmp_eq (t := 1705) dL_law_397 (by decide) (fun q => ?_) (fun q => ?_)
      · have H70 := H69.1 q
        refine z_iinc (y := x3 + 6) (lv' := [(3, .int (x3 + 6)), (0, .retAddr 1000), (1, .ref a1), (2, .ref a2)]) 3 dL_law_1705 rfl rfl (by decide) rfl (z_goto (t := 18) dL_law_1708 (by decide) ?_)
        exact z_less [1, 2, 3, 0] rfl H70
      · have H71 := H69.2 q
        refine z_iconst (w := 0) dL_law_400 (by decide) ?_
        obtain ⟨hu, hv, rfl, rfl⟩ := H71
        exact z_zret dL_law_401 rfl (Or.inl rfl) hu hv
    by_cases q72 : ((xs x3.toNatClampNeg) &&& 63) = 6
    · have H73 := H2.2.2.2.2.2.2.2.1 q72
      have eq72 : (((xs x3.toNatClampNeg) &&& 63) : Int32).toInt = 6 := by rw [q72]; decide
      refine z_tableIn (off := 369) (t := 402) dL_law_33 (by rw [eq72]; decide) (by rw [eq72]; decide) (by rw [eq72]; rfl) (by decide) ?_
      refine z_aload_n 1 dL_law_402 rfl rfl (z_aload_n 0 dL_law_403 rfl rfl (z_iload_n 3 dL_law_404 rfl (z_iconst (w := 1) dL_law_405 (by decide) (z_iadd dL_law_406 (z_sld rfl dL_law_407 H73.1 (z_aload_n 0 dL_law_408 rfl rfl (z_iload_n 3 dL_law_409 rfl (z_iconst (w := 2) dL_law_410 (by decide) (z_iadd dL_law_411 (z_sld rfl dL_law_412 H73.2.1 ?_))))))))))
      obtain ⟨huc77, hvc77, oc77, w74, I75, P76, c77, H78⟩ := H73.2.2
      refine z_virt (As := [.int (xs (x3 + 1).toNatClampNeg), .int (xs (x3 + 2).toNatClampNeg)]) (st := []) (r1 := (some (.int w74))) (h1 := (g, I75, P76)) dL_law_413 kX11_stop wm_L_41 ⟨by decide, by decide⟩ rfl rfl (Nat.le_of_ble_eq_true rfl) huc77 hvc77 oc77 c77 ?_
      refine z_aload_n 2 dL_law_416 rfl rfl (z_aload_n 0 dL_law_417 rfl rfl (z_iload_n 3 dL_law_418 rfl (z_iconst (w := 1) dL_law_419 (by decide) (z_iadd dL_law_420 (z_sld rfl dL_law_421 H78.1 (z_aload_n 0 dL_law_422 rfl rfl (z_iload_n 3 dL_law_423 rfl (z_iconst (w := 2) dL_law_424 (by decide) (z_iadd dL_law_425 (z_sld rfl dL_law_426 H78.2.1 ?_))))))))))
      obtain ⟨huc81, hvc81, oc81, w79, I80, c81, H82⟩ := H78.2.2
      refine z_virt (As := [.int (xs (x3 + 1).toNatClampNeg), .int (xs (x3 + 2).toNatClampNeg)]) (st := [.int w74]) (r1 := (some (.int w79))) (h1 := (g, I80, P76)) dL_law_427 kX12_stop wm_L_44 ⟨by decide, by decide⟩ rfl rfl (Nat.le_of_ble_eq_true rfl) huc81 hvc81 oc81 c81 ?_
      refine z_icmp_eq (t := 1705) dL_law_430 (by decide) (fun q => ?_) (fun q => ?_)
      · have H83 := H82.1 q
        refine z_iinc (y := x3 + 6) (lv' := [(3, .int (x3 + 6)), (0, .retAddr 1000), (1, .ref a1), (2, .ref a2)]) 3 dL_law_1705 rfl rfl (by decide) rfl (z_goto (t := 18) dL_law_1708 (by decide) ?_)
        exact z_less [1, 2, 3, 0] rfl H83
      · have H84 := H82.2 q
        refine z_iconst (w := 0) dL_law_433 (by decide) ?_
        obtain ⟨hu, hv, rfl, rfl⟩ := H84
        exact z_zret dL_law_434 rfl (Or.inl rfl) hu hv
    by_cases q85 : ((xs x3.toNatClampNeg) &&& 63) = 7
    · have H86 := H2.2.2.2.2.2.2.2.2.1 q85
      have eq85 : (((xs x3.toNatClampNeg) &&& 63) : Int32).toInt = 7 := by rw [q85]; decide
      refine z_tableIn (off := 402) (t := 435) dL_law_33 (by rw [eq85]; decide) (by rw [eq85]; decide) (by rw [eq85]; rfl) (by decide) ?_
      refine z_aload_n 1 dL_law_435 rfl rfl (z_aload_n 0 dL_law_436 rfl rfl (z_iload_n 3 dL_law_437 rfl (z_iconst (w := 1) dL_law_438 (by decide) (z_iadd dL_law_439 (z_sld rfl dL_law_440 H86.1 (z_aload_n 0 dL_law_441 rfl rfl (z_iload_n 3 dL_law_442 rfl (z_iconst (w := 2) dL_law_443 (by decide) (z_iadd dL_law_444 (z_sld rfl dL_law_445 H86.2.1 (z_aload_n 0 dL_law_446 rfl rfl (z_iload_n 3 dL_law_447 rfl (z_iconst (w := 3) dL_law_448 (by decide) (z_iadd dL_law_449 (z_sld rfl dL_law_450 H86.2.2.1 (z_aload_n 0 dL_law_451 rfl rfl (z_iload_n 3 dL_law_452 rfl (z_iconst (w := 4) dL_law_453 (by decide) (z_iadd dL_law_454 (z_sld rfl dL_law_455 H86.2.2.2.1 ?_))))))))))))))))))))
      obtain ⟨huc90, hvc90, oc90, w87, I88, P89, c90, H91⟩ := H86.2.2.2.2
      refine z_virt (As := [.int (xs (x3 + 1).toNatClampNeg), .int (xs (x3 + 2).toNatClampNeg), .int (xs (x3 + 3).toNatClampNeg), .int (xs (x3 + 4).toNatClampNeg)]) (st := []) (r1 := (some (.int w87))) (h1 := (g, I88, P89)) dL_law_456 kX11_state wm_L_45 ⟨by decide, by decide⟩ rfl rfl (Nat.le_of_ble_eq_true rfl) huc90 hvc90 oc90 c90 ?_
      refine z_aload_n 2 dL_law_459 rfl rfl (z_aload_n 0 dL_law_460 rfl rfl (z_iload_n 3 dL_law_461 rfl (z_iconst (w := 1) dL_law_462 (by decide) (z_iadd dL_law_463 (z_sld rfl dL_law_464 H91.1 (z_aload_n 0 dL_law_465 rfl rfl (z_iload_n 3 dL_law_466 rfl (z_iconst (w := 2) dL_law_467 (by decide) (z_iadd dL_law_468 (z_sld rfl dL_law_469 H91.2.1 (z_aload_n 0 dL_law_470 rfl rfl (z_iload_n 3 dL_law_471 rfl (z_iconst (w := 3) dL_law_472 (by decide) (z_iadd dL_law_473 (z_sld rfl dL_law_474 H91.2.2.1 (z_aload_n 0 dL_law_475 rfl rfl (z_iload_n 3 dL_law_476 rfl (z_iconst (w := 4) dL_law_477 (by decide) (z_iadd dL_law_478 (z_sld rfl dL_law_479 H91.2.2.2.1 ?_))))))))))))))))))))
      obtain ⟨huc94, hvc94, oc94, w92, I93, c94, H95⟩ := H91.2.2.2.2
      refine z_virt (As := [.int (xs (x3 + 1).toNatClampNeg), .int (xs (x3 + 2).toNatClampNeg), .int (xs (x3 + 3).toNatClampNeg), .int (xs (x3 + 4).toNatClampNeg)]) (st := [.int w87]) (r1 := (some (.int w92))) (h1 := (g, I93, P89)) dL_law_480 kX12_state wm_L_49 ⟨by decide, by decide⟩ rfl rfl (Nat.le_of_ble_eq_true rfl) huc94 hvc94 oc94 c94 ?_
      refine z_icmp_eq (t := 1705) dL_law_483 (by decide) (fun q => ?_) (fun q => ?_)
      · have H96 := H95.1 q
        refine z_iinc (y := x3 + 6) (lv' := [(3, .int (x3 + 6)), (0, .retAddr 1000), (1, .ref a1), (2, .ref a2)]) 3 dL_law_1705 rfl rfl (by decide) rfl (z_goto (t := 18) dL_law_1708 (by decide) ?_)
        exact z_less [1, 2, 3, 0] rfl H96
      · have H97 := H95.2 q
        refine z_iconst (w := 0) dL_law_486 (by decide) ?_
        obtain ⟨hu, hv, rfl, rfl⟩ := H97
        exact z_zret dL_law_487 rfl (Or.inl rfl) hu hv
    by_cases q98 : ((xs x3.toNatClampNeg) &&& 63) = 8
    · have H99 := H2.2.2.2.2.2.2.2.2.2.1 q98
      have eq98 : (((xs x3.toNatClampNeg) &&& 63) : Int32).toInt = 8 := by rw [q98]; decide
      refine z_tableIn (off := 455) (t := 488) dL_law_33 (by rw [eq98]; decide) (by rw [eq98]; decide) (by rw [eq98]; rfl) (by decide) ?_
      refine z_aload_n 1 dL_law_488 rfl rfl (z_aload_n 0 dL_law_489 rfl rfl (z_iload_n 3 dL_law_490 rfl (z_iconst (w := 1) dL_law_491 (by decide) (z_iadd dL_law_492 (z_sld rfl dL_law_493 H99.1 (z_aload_n 0 dL_law_494 rfl rfl (z_iload_n 3 dL_law_495 rfl (z_iconst (w := 2) dL_law_496 (by decide) (z_iadd dL_law_497 (z_sld rfl dL_law_498 H99.2.1 (z_aload_n 0 dL_law_499 rfl rfl (z_iload_n 3 dL_law_500 rfl (z_iconst (w := 3) dL_law_501 (by decide) (z_iadd dL_law_502 (z_sld rfl dL_law_503 H99.2.2.1 ?_)))))))))))))))
      obtain ⟨huc101, hvc101, oc101, w100, c101, H102⟩ := H99.2.2.2
      refine z_virt (As := [.int (xs (x3 + 1).toNatClampNeg), .int (xs (x3 + 2).toNatClampNeg), .int (xs (x3 + 3).toNatClampNeg)]) (st := []) (r1 := (some (.int w100))) (h1 := (g, I, P)) dL_law_504 kX11_line wm_L_50 ⟨by decide, by decide⟩ rfl rfl (Nat.le_of_ble_eq_true rfl) huc101 hvc101 oc101 c101 ?_
      refine z_aload_n 2 dL_law_507 rfl rfl (z_aload_n 0 dL_law_508 rfl rfl (z_iload_n 3 dL_law_509 rfl (z_iconst (w := 1) dL_law_510 (by decide) (z_iadd dL_law_511 (z_sld rfl dL_law_512 H102.1 (z_aload_n 0 dL_law_513 rfl rfl (z_iload_n 3 dL_law_514 rfl (z_iconst (w := 2) dL_law_515 (by decide) (z_iadd dL_law_516 (z_sld rfl dL_law_517 H102.2.1 (z_aload_n 0 dL_law_518 rfl rfl (z_iload_n 3 dL_law_519 rfl (z_iconst (w := 3) dL_law_520 (by decide) (z_iadd dL_law_521 (z_sld rfl dL_law_522 H102.2.2.1 ?_)))))))))))))))
      obtain ⟨huc105, hvc105, oc105, w103, I104, c105, H106⟩ := H102.2.2.2
      refine z_virt (As := [.int (xs (x3 + 1).toNatClampNeg), .int (xs (x3 + 2).toNatClampNeg), .int (xs (x3 + 3).toNatClampNeg)]) (st := [.int w100]) (r1 := (some (.int w103))) (h1 := (g, I104, P)) dL_law_523 kX12_line wm_L_53 ⟨by decide, by decide⟩ rfl rfl (Nat.le_of_ble_eq_true rfl) huc105 hvc105 oc105 c105 ?_
      refine z_icmp_eq (t := 1705) dL_law_526 (by decide) (fun q => ?_) (fun q => ?_)
      · have H107 := H106.1 q
        refine z_iinc (y := x3 + 6) (lv' := [(3, .int (x3 + 6)), (0, .retAddr 1000), (1, .ref a1), (2, .ref a2)]) 3 dL_law_1705 rfl rfl (by decide) rfl (z_goto (t := 18) dL_law_1708 (by decide) ?_)
        exact z_less [1, 2, 3, 0] rfl H107
      · have H108 := H106.2 q
        refine z_iconst (w := 0) dL_law_529 (by decide) ?_
        obtain ⟨hu, hv, rfl, rfl⟩ := H108
        exact z_zret dL_law_530 rfl (Or.inl rfl) hu hv
    by_cases q109 : ((xs x3.toNatClampNeg) &&& 63) = 9
    · have H110 := H2.2.2.2.2.2.2.2.2.2.2.1 q109
      have eq109 : (((xs x3.toNatClampNeg) &&& 63) : Int32).toInt = 9 := by rw [q109]; decide
      refine z_tableIn (off := 498) (t := 531) dL_law_33 (by rw [eq109]; decide) (by rw [eq109]; decide) (by rw [eq109]; rfl) (by decide) ?_
      refine z_aload_n 1 dL_law_531 rfl rfl (z_aload_n 0 dL_law_532 rfl rfl (z_iload_n 3 dL_law_533 rfl (z_iconst (w := 1) dL_law_534 (by decide) (z_iadd dL_law_535 (z_sld rfl dL_law_536 H110.1 (z_aload_n 0 dL_law_537 rfl rfl (z_iload_n 3 dL_law_538 rfl (z_iconst (w := 2) dL_law_539 (by decide) (z_iadd dL_law_540 (z_sld rfl dL_law_541 H110.2.1 (z_aload_n 0 dL_law_542 rfl rfl (z_iload_n 3 dL_law_543 rfl (z_iconst (w := 3) dL_law_544 (by decide) (z_iadd dL_law_545 (z_sld rfl dL_law_546 H110.2.2.1 (z_aload_n 0 dL_law_547 rfl rfl (z_iload_n 3 dL_law_548 rfl (z_iconst (w := 4) dL_law_549 (by decide) (z_iadd dL_law_550 (z_sld rfl dL_law_551 H110.2.2.2.1 ?_))))))))))))))))))))
      obtain ⟨huc114, hvc114, oc114, w111, I112, P113, c114, H115⟩ := H110.2.2.2.2
      refine z_virt (As := [.int (xs (x3 + 1).toNatClampNeg), .int (xs (x3 + 2).toNatClampNeg), .int (xs (x3 + 3).toNatClampNeg), .int (xs (x3 + 4).toNatClampNeg)]) (st := []) (r1 := (some (.int w111))) (h1 := (g, I112, P113)) dL_law_552 kX11_said wm_L_54 ⟨by decide, by decide⟩ rfl rfl (Nat.le_of_ble_eq_true rfl) huc114 hvc114 oc114 c114 ?_
      refine z_aload_n 2 dL_law_555 rfl rfl (z_aload_n 0 dL_law_556 rfl rfl (z_iload_n 3 dL_law_557 rfl (z_iconst (w := 1) dL_law_558 (by decide) (z_iadd dL_law_559 (z_sld rfl dL_law_560 H115.1 (z_aload_n 0 dL_law_561 rfl rfl (z_iload_n 3 dL_law_562 rfl (z_iconst (w := 2) dL_law_563 (by decide) (z_iadd dL_law_564 (z_sld rfl dL_law_565 H115.2.1 (z_aload_n 0 dL_law_566 rfl rfl (z_iload_n 3 dL_law_567 rfl (z_iconst (w := 3) dL_law_568 (by decide) (z_iadd dL_law_569 (z_sld rfl dL_law_570 H115.2.2.1 (z_aload_n 0 dL_law_571 rfl rfl (z_iload_n 3 dL_law_572 rfl (z_iconst (w := 4) dL_law_573 (by decide) (z_iadd dL_law_574 (z_sld rfl dL_law_575 H115.2.2.2.1 ?_))))))))))))))))))))
      obtain ⟨huc118, hvc118, oc118, w116, I117, c118, H119⟩ := H115.2.2.2.2
      refine z_virt (As := [.int (xs (x3 + 1).toNatClampNeg), .int (xs (x3 + 2).toNatClampNeg), .int (xs (x3 + 3).toNatClampNeg), .int (xs (x3 + 4).toNatClampNeg)]) (st := [.int w111]) (r1 := (some (.int w116))) (h1 := (g, I117, P113)) dL_law_576 kX12_said wm_L_57 ⟨by decide, by decide⟩ rfl rfl (Nat.le_of_ble_eq_true rfl) huc118 hvc118 oc118 c118 ?_
      refine z_icmp_eq (t := 1705) dL_law_579 (by decide) (fun q => ?_) (fun q => ?_)
      · have H120 := H119.1 q
        refine z_iinc (y := x3 + 6) (lv' := [(3, .int (x3 + 6)), (0, .retAddr 1000), (1, .ref a1), (2, .ref a2)]) 3 dL_law_1705 rfl rfl (by decide) rfl (z_goto (t := 18) dL_law_1708 (by decide) ?_)
        exact z_less [1, 2, 3, 0] rfl H120
      · have H121 := H119.2 q
        refine z_iconst (w := 0) dL_law_582 (by decide) ?_
        obtain ⟨hu, hv, rfl, rfl⟩ := H121
        exact z_zret dL_law_583 rfl (Or.inl rfl) hu hv
    by_cases q122 : ((xs x3.toNatClampNeg) &&& 63) = 10
    · have H123 := H2.2.2.2.2.2.2.2.2.2.2.2.1 q122
      have eq122 : (((xs x3.toNatClampNeg) &&& 63) : Int32).toInt = 10 := by rw [q122]; decide
      refine z_tableIn (off := 551) (t := 584) dL_law_33 (by rw [eq122]; decide) (by rw [eq122]; decide) (by rw [eq122]; rfl) (by decide) ?_
      refine z_aload_n 1 dL_law_584 rfl rfl (z_aload_n 0 dL_law_585 rfl rfl (z_iload_n 3 dL_law_586 rfl (z_iconst (w := 1) dL_law_587 (by decide) (z_iadd dL_law_588 (z_sld rfl dL_law_589 H123.1 (z_aload_n 0 dL_law_590 rfl rfl (z_iload_n 3 dL_law_591 rfl (z_iconst (w := 2) dL_law_592 (by decide) (z_iadd dL_law_593 (z_sld rfl dL_law_594 H123.2.1 (z_aload_n 0 dL_law_595 rfl rfl (z_iload_n 3 dL_law_596 rfl (z_iconst (w := 3) dL_law_597 (by decide) (z_iadd dL_law_598 (z_sld rfl dL_law_599 H123.2.2.1 (z_aload_n 0 dL_law_600 rfl rfl (z_iload_n 3 dL_law_601 rfl (z_iconst (w := 4) dL_law_602 (by decide) (z_iadd dL_law_603 (z_sld rfl dL_law_604 H123.2.2.2.1 (z_aload_n 0 dL_law_605 rfl rfl (z_iload_n 3 dL_law_606 rfl (z_iconst (w := 5) dL_law_607 (by decide) (z_iadd dL_law_608 (z_sld rfl dL_law_609 H123.2.2.2.2.1 ?_)))))))))))))))))))))))))
      refine z_if_eq (t := 617) dL_law_610 (by decide) (fun q => ?_) (fun q => ?_)
      · have H124 := H123.2.2.2.2.2.1 q
        refine z_iconst (w := 0) dL_law_617 (by decide) ?_
        exact z_less [0, 1, 2, 3] rfl H124
      · have H125 := H123.2.2.2.2.2.2 q
        refine z_iconst (w := 1) dL_law_613 (by decide) (z_goto (t := 618) dL_law_614 (by decide) ?_)
        exact z_less [0, 1, 2, 3] rfl H125
    by_cases q126 : ((xs x3.toNatClampNeg) &&& 63) = 11
    · have H127 := H2.2.2.2.2.2.2.2.2.2.2.2.2.1 q126
      have eq126 : (((xs x3.toNatClampNeg) &&& 63) : Int32).toInt = 11 := by rw [q126]; decide
      refine z_tableIn (off := 631) (t := 664) dL_law_33 (by rw [eq126]; decide) (by rw [eq126]; decide) (by rw [eq126]; rfl) (by decide) ?_
      refine z_aload_n 1 dL_law_664 rfl rfl (z_aload_n 0 dL_law_665 rfl rfl (z_iload_n 3 dL_law_666 rfl (z_iconst (w := 1) dL_law_667 (by decide) (z_iadd dL_law_668 (z_sld rfl dL_law_669 H127.1 (z_aload_n 0 dL_law_670 rfl rfl (z_iload_n 3 dL_law_671 rfl (z_iconst (w := 2) dL_law_672 (by decide) (z_iadd dL_law_673 (z_sld rfl dL_law_674 H127.2.1 (z_aload_n 0 dL_law_675 rfl rfl (z_iload_n 3 dL_law_676 rfl (z_iconst (w := 3) dL_law_677 (by decide) (z_iadd dL_law_678 (z_sld rfl dL_law_679 H127.2.2.1 (z_aload_n 0 dL_law_680 rfl rfl (z_iload_n 3 dL_law_681 rfl (z_iconst (w := 4) dL_law_682 (by decide) (z_iadd dL_law_683 (z_sld rfl dL_law_684 H127.2.2.2.1 ?_))))))))))))))))))))
      refine z_if_eq (t := 692) dL_law_685 (by decide) (fun q => ?_) (fun q => ?_)
      · have H128 := H127.2.2.2.2.1 q
        refine z_iconst (w := 0) dL_law_692 (by decide) ?_
        exact z_less [0, 1, 2, 3] rfl H128
      · have H129 := H127.2.2.2.2.2 q
        refine z_iconst (w := 1) dL_law_688 (by decide) (z_goto (t := 693) dL_law_689 (by decide) ?_)
        exact z_less [0, 1, 2, 3] rfl H129
    by_cases q130 : ((xs x3.toNatClampNeg) &&& 63) = 12
    · have H131 := H2.2.2.2.2.2.2.2.2.2.2.2.2.2.1 q130
      have eq130 : (((xs x3.toNatClampNeg) &&& 63) : Int32).toInt = 12 := by rw [q130]; decide
      refine z_tableIn (off := 701) (t := 734) dL_law_33 (by rw [eq130]; decide) (by rw [eq130]; decide) (by rw [eq130]; rfl) (by decide) ?_
      refine z_aload_n 1 dL_law_734 rfl rfl (z_aload_n 0 dL_law_735 rfl rfl (z_iload_n 3 dL_law_736 rfl (z_iconst (w := 1) dL_law_737 (by decide) (z_iadd dL_law_738 (z_sld rfl dL_law_739 H131.1 (z_aload_n 0 dL_law_740 rfl rfl (z_iload_n 3 dL_law_741 rfl (z_iconst (w := 2) dL_law_742 (by decide) (z_iadd dL_law_743 (z_sld rfl dL_law_744 H131.2.1 (z_aload_n 0 dL_law_745 rfl rfl (z_iload_n 3 dL_law_746 rfl (z_iconst (w := 3) dL_law_747 (by decide) (z_iadd dL_law_748 (z_sld rfl dL_law_749 H131.2.2.1 (z_aload_n 0 dL_law_750 rfl rfl (z_iload_n 3 dL_law_751 rfl (z_iconst (w := 4) dL_law_752 (by decide) (z_iadd dL_law_753 (z_sld rfl dL_law_754 H131.2.2.2.1 ?_))))))))))))))))))))
      obtain ⟨huc135, hvc135, oc135, w132, I133, P134, c135, H136⟩ := H131.2.2.2.2
      refine z_virt (As := [.int (xs (x3 + 1).toNatClampNeg), .int (xs (x3 + 2).toNatClampNeg), .int (xs (x3 + 3).toNatClampNeg), .int (xs (x3 + 4).toNatClampNeg)]) (st := []) (r1 := (some (.int w132))) (h1 := (g, I133, P134)) dL_law_755 kX11_reading wm_L_68 ⟨by decide, by decide⟩ rfl rfl (Nat.le_of_ble_eq_true rfl) huc135 hvc135 oc135 c135 ?_
      refine z_aload_n 2 dL_law_758 rfl rfl (z_aload_n 0 dL_law_759 rfl rfl (z_iload_n 3 dL_law_760 rfl (z_iconst (w := 1) dL_law_761 (by decide) (z_iadd dL_law_762 (z_sld rfl dL_law_763 H136.1 (z_aload_n 0 dL_law_764 rfl rfl (z_iload_n 3 dL_law_765 rfl (z_iconst (w := 2) dL_law_766 (by decide) (z_iadd dL_law_767 (z_sld rfl dL_law_768 H136.2.1 (z_aload_n 0 dL_law_769 rfl rfl (z_iload_n 3 dL_law_770 rfl (z_iconst (w := 3) dL_law_771 (by decide) (z_iadd dL_law_772 (z_sld rfl dL_law_773 H136.2.2.1 (z_aload_n 0 dL_law_774 rfl rfl (z_iload_n 3 dL_law_775 rfl (z_iconst (w := 4) dL_law_776 (by decide) (z_iadd dL_law_777 (z_sld rfl dL_law_778 H136.2.2.2.1 ?_))))))))))))))))))))
      obtain ⟨huc139, hvc139, oc139, w137, I138, c139, H140⟩ := H136.2.2.2.2
      refine z_virt (As := [.int (xs (x3 + 1).toNatClampNeg), .int (xs (x3 + 2).toNatClampNeg), .int (xs (x3 + 3).toNatClampNeg), .int (xs (x3 + 4).toNatClampNeg)]) (st := [.int w132]) (r1 := (some (.int w137))) (h1 := (g, I138, P134)) dL_law_779 kX12_reading wm_L_71 ⟨by decide, by decide⟩ rfl rfl (Nat.le_of_ble_eq_true rfl) huc139 hvc139 oc139 c139 ?_
      refine z_icmp_eq (t := 1705) dL_law_782 (by decide) (fun q => ?_) (fun q => ?_)
      · have H141 := H140.1 q
        refine z_iinc (y := x3 + 6) (lv' := [(3, .int (x3 + 6)), (0, .retAddr 1000), (1, .ref a1), (2, .ref a2)]) 3 dL_law_1705 rfl rfl (by decide) rfl (z_goto (t := 18) dL_law_1708 (by decide) ?_)
        exact z_less [1, 2, 3, 0] rfl H141
      · have H142 := H140.2 q
        refine z_iconst (w := 0) dL_law_785 (by decide) ?_
        obtain ⟨hu, hv, rfl, rfl⟩ := H142
        exact z_zret dL_law_786 rfl (Or.inl rfl) hu hv
    by_cases q143 : ((xs x3.toNatClampNeg) &&& 63) = 13
    · have H144 := H2.2.2.2.2.2.2.2.2.2.2.2.2.2.2.1 q143
      have eq143 : (((xs x3.toNatClampNeg) &&& 63) : Int32).toInt = 13 := by rw [q143]; decide
      refine z_tableIn (off := 754) (t := 787) dL_law_33 (by rw [eq143]; decide) (by rw [eq143]; decide) (by rw [eq143]; rfl) (by decide) ?_
      refine z_aload_n 1 dL_law_787 rfl rfl (z_aload_n 0 dL_law_788 rfl rfl (z_iload_n 3 dL_law_789 rfl (z_iconst (w := 1) dL_law_790 (by decide) (z_iadd dL_law_791 (z_sld rfl dL_law_792 H144.1 (z_aload_n 0 dL_law_793 rfl rfl (z_iload_n 3 dL_law_794 rfl (z_iconst (w := 2) dL_law_795 (by decide) (z_iadd dL_law_796 (z_sld rfl dL_law_797 H144.2.1 (z_aload_n 0 dL_law_798 rfl rfl (z_iload_n 3 dL_law_799 rfl (z_iconst (w := 3) dL_law_800 (by decide) (z_iadd dL_law_801 (z_sld rfl dL_law_802 H144.2.2.1 (z_aload_n 0 dL_law_803 rfl rfl (z_iload_n 3 dL_law_804 rfl (z_iconst (w := 4) dL_law_805 (by decide) (z_iadd dL_law_806 (z_sld rfl dL_law_807 H144.2.2.2.1 ?_))))))))))))))))))))
      obtain ⟨huc148, hvc148, oc148, w145, I146, P147, c148, H149⟩ := H144.2.2.2.2
      refine z_virt (As := [.int (xs (x3 + 1).toNatClampNeg), .int (xs (x3 + 2).toNatClampNeg), .int (xs (x3 + 3).toNatClampNeg), .int (xs (x3 + 4).toNatClampNeg)]) (st := []) (r1 := (some (.int w145))) (h1 := (g, I146, P147)) dL_law_808 kX11_slips wm_L_72 ⟨by decide, by decide⟩ rfl rfl (Nat.le_of_ble_eq_true rfl) huc148 hvc148 oc148 c148 ?_
      refine z_aload_n 2 dL_law_811 rfl rfl (z_aload_n 0 dL_law_812 rfl rfl (z_iload_n 3 dL_law_813 rfl (z_iconst (w := 1) dL_law_814 (by decide) (z_iadd dL_law_815 (z_sld rfl dL_law_816 H149.1 (z_aload_n 0 dL_law_817 rfl rfl (z_iload_n 3 dL_law_818 rfl (z_iconst (w := 2) dL_law_819 (by decide) (z_iadd dL_law_820 (z_sld rfl dL_law_821 H149.2.1 (z_aload_n 0 dL_law_822 rfl rfl (z_iload_n 3 dL_law_823 rfl (z_iconst (w := 3) dL_law_824 (by decide) (z_iadd dL_law_825 (z_sld rfl dL_law_826 H149.2.2.1 (z_aload_n 0 dL_law_827 rfl rfl (z_iload_n 3 dL_law_828 rfl (z_iconst (w := 4) dL_law_829 (by decide) (z_iadd dL_law_830 (z_sld rfl dL_law_831 H149.2.2.2.1 ?_))))))))))))))))))))
      obtain ⟨huc152, hvc152, oc152, w150, I151, c152, H153⟩ := H149.2.2.2.2
      refine z_virt (As := [.int (xs (x3 + 1).toNatClampNeg), .int (xs (x3 + 2).toNatClampNeg), .int (xs (x3 + 3).toNatClampNeg), .int (xs (x3 + 4).toNatClampNeg)]) (st := [.int w145]) (r1 := (some (.int w150))) (h1 := (g, I151, P147)) dL_law_832 kX12_slips wm_L_75 ⟨by decide, by decide⟩ rfl rfl (Nat.le_of_ble_eq_true rfl) huc152 hvc152 oc152 c152 ?_
      refine z_icmp_eq (t := 1705) dL_law_835 (by decide) (fun q => ?_) (fun q => ?_)
      · have H154 := H153.1 q
        refine z_iinc (y := x3 + 6) (lv' := [(3, .int (x3 + 6)), (0, .retAddr 1000), (1, .ref a1), (2, .ref a2)]) 3 dL_law_1705 rfl rfl (by decide) rfl (z_goto (t := 18) dL_law_1708 (by decide) ?_)
        exact z_less [1, 2, 3, 0] rfl H154
      · have H155 := H153.2 q
        refine z_iconst (w := 0) dL_law_838 (by decide) ?_
        obtain ⟨hu, hv, rfl, rfl⟩ := H155
        exact z_zret dL_law_839 rfl (Or.inl rfl) hu hv
    by_cases q156 : ((xs x3.toNatClampNeg) &&& 63) = 14
    · have H157 := H2.2.2.2.2.2.2.2.2.2.2.2.2.2.2.2.1 q156
      have eq156 : (((xs x3.toNatClampNeg) &&& 63) : Int32).toInt = 14 := by rw [q156]; decide
      refine z_tableIn (off := 807) (t := 840) dL_law_33 (by rw [eq156]; decide) (by rw [eq156]; decide) (by rw [eq156]; rfl) (by decide) ?_
      refine z_aload_n 1 dL_law_840 rfl rfl (z_aload_n 0 dL_law_841 rfl rfl (z_iload_n 3 dL_law_842 rfl (z_iconst (w := 1) dL_law_843 (by decide) (z_iadd dL_law_844 (z_sld rfl dL_law_845 H157.1 (z_aload_n 0 dL_law_846 rfl rfl (z_iload_n 3 dL_law_847 rfl (z_iconst (w := 2) dL_law_848 (by decide) (z_iadd dL_law_849 (z_sld rfl dL_law_850 H157.2.1 (z_aload_n 0 dL_law_851 rfl rfl (z_iload_n 3 dL_law_852 rfl (z_iconst (w := 3) dL_law_853 (by decide) (z_iadd dL_law_854 (z_sld rfl dL_law_855 H157.2.2.1 ?_)))))))))))))))
      refine z_if_eq (t := 863) dL_law_856 (by decide) (fun q => ?_) (fun q => ?_)
      · have H158 := H157.2.2.2.1 q
        refine z_iconst (w := 0) dL_law_863 (by decide) ?_
        exact z_less [0, 1, 2, 3] rfl H158
      · have H159 := H157.2.2.2.2 q
        refine z_iconst (w := 1) dL_law_859 (by decide) (z_goto (t := 864) dL_law_860 (by decide) ?_)
        exact z_less [0, 1, 2, 3] rfl H159
    by_cases q160 : ((xs x3.toNatClampNeg) &&& 63) = 15
    · have H161 := H2.2.2.2.2.2.2.2.2.2.2.2.2.2.2.2.2.1 q160
      have eq160 : (((xs x3.toNatClampNeg) &&& 63) : Int32).toInt = 15 := by rw [q160]; decide
      refine z_tableIn (off := 867) (t := 900) dL_law_33 (by rw [eq160]; decide) (by rw [eq160]; decide) (by rw [eq160]; rfl) (by decide) ?_
      refine z_aload_n 1 dL_law_900 rfl rfl (z_aload_n 0 dL_law_901 rfl rfl (z_iload_n 3 dL_law_902 rfl (z_iconst (w := 1) dL_law_903 (by decide) (z_iadd dL_law_904 (z_sld rfl dL_law_905 H161.1 ?_)))))
      obtain ⟨huc163, hvc163, oc163, w162, c163, H164⟩ := H161.2
      refine z_virt (As := [.int (xs (x3 + 1).toNatClampNeg)]) (st := []) (r1 := (some (.int w162))) (h1 := (g, I, P)) dL_law_906 kX11_soonest wm_L_81 ⟨by decide, by decide⟩ rfl rfl (Nat.le_of_ble_eq_true rfl) huc163 hvc163 oc163 c163 ?_
      refine z_aload_n 2 dL_law_909 rfl rfl (z_aload_n 0 dL_law_910 rfl rfl (z_iload_n 3 dL_law_911 rfl (z_iconst (w := 1) dL_law_912 (by decide) (z_iadd dL_law_913 (z_sld rfl dL_law_914 H164.1 ?_)))))
      obtain ⟨huc167, hvc167, oc167, w165, I166, c167, H168⟩ := H164.2
      refine z_virt (As := [.int (xs (x3 + 1).toNatClampNeg)]) (st := [.int w162]) (r1 := (some (.int w165))) (h1 := (g, I166, P)) dL_law_915 kX12_soonest wm_L_84 ⟨by decide, by decide⟩ rfl rfl (Nat.le_of_ble_eq_true rfl) huc167 hvc167 oc167 c167 ?_
      refine z_icmp_eq (t := 1705) dL_law_918 (by decide) (fun q => ?_) (fun q => ?_)
      · have H169 := H168.1 q
        refine z_iinc (y := x3 + 6) (lv' := [(3, .int (x3 + 6)), (0, .retAddr 1000), (1, .ref a1), (2, .ref a2)]) 3 dL_law_1705 rfl rfl (by decide) rfl (z_goto (t := 18) dL_law_1708 (by decide) ?_)
        exact z_less [1, 2, 3, 0] rfl H169
      · have H170 := H168.2 q
        refine z_iconst (w := 0) dL_law_921 (by decide) ?_
        obtain ⟨hu, hv, rfl, rfl⟩ := H170
        exact z_zret dL_law_922 rfl (Or.inl rfl) hu hv
    by_cases q171 : ((xs x3.toNatClampNeg) &&& 63) = 16
    · have H172 := H2.2.2.2.2.2.2.2.2.2.2.2.2.2.2.2.2.2.1 q171
      have eq171 : (((xs x3.toNatClampNeg) &&& 63) : Int32).toInt = 16 := by rw [q171]; decide
      refine z_tableIn (off := 890) (t := 923) dL_law_33 (by rw [eq171]; decide) (by rw [eq171]; decide) (by rw [eq171]; rfl) (by decide) ?_
      refine z_aload_n 1 dL_law_923 rfl rfl (z_aload_n 0 dL_law_924 rfl rfl (z_iload_n 3 dL_law_925 rfl (z_iconst (w := 1) dL_law_926 (by decide) (z_iadd dL_law_927 (z_sld rfl dL_law_928 H172.1 (z_aload_n 0 dL_law_929 rfl rfl (z_iload_n 3 dL_law_930 rfl (z_iconst (w := 2) dL_law_931 (by decide) (z_iadd dL_law_932 (z_sld rfl dL_law_933 H172.2.1 ?_))))))))))
      obtain ⟨huc175, hvc175, oc175, w173, I174, c175, H176⟩ := H172.2.2
      refine z_virt (As := [.int (xs (x3 + 1).toNatClampNeg), .int (xs (x3 + 2).toNatClampNeg)]) (st := []) (r1 := (some (.int w173))) (h1 := (g, I174, P)) dL_law_934 kX11_sentences wm_L_85 ⟨by decide, by decide⟩ rfl rfl (Nat.le_of_ble_eq_true rfl) huc175 hvc175 oc175 c175 ?_
      refine z_aload_n 2 dL_law_937 rfl rfl (z_aload_n 0 dL_law_938 rfl rfl (z_iload_n 3 dL_law_939 rfl (z_iconst (w := 1) dL_law_940 (by decide) (z_iadd dL_law_941 (z_sld rfl dL_law_942 H176.1 (z_aload_n 0 dL_law_943 rfl rfl (z_iload_n 3 dL_law_944 rfl (z_iconst (w := 2) dL_law_945 (by decide) (z_iadd dL_law_946 (z_sld rfl dL_law_947 H176.2.1 ?_))))))))))
      obtain ⟨huc179, hvc179, oc179, w177, I178, c179, H180⟩ := H176.2.2
      refine z_virt (As := [.int (xs (x3 + 1).toNatClampNeg), .int (xs (x3 + 2).toNatClampNeg)]) (st := [.int w173]) (r1 := (some (.int w177))) (h1 := (g, I178, P)) dL_law_948 kX12_sentences wm_L_88 ⟨by decide, by decide⟩ rfl rfl (Nat.le_of_ble_eq_true rfl) huc179 hvc179 oc179 c179 ?_
      refine z_icmp_eq (t := 1705) dL_law_951 (by decide) (fun q => ?_) (fun q => ?_)
      · have H181 := H180.1 q
        refine z_iinc (y := x3 + 6) (lv' := [(3, .int (x3 + 6)), (0, .retAddr 1000), (1, .ref a1), (2, .ref a2)]) 3 dL_law_1705 rfl rfl (by decide) rfl (z_goto (t := 18) dL_law_1708 (by decide) ?_)
        exact z_less [1, 2, 3, 0] rfl H181
      · have H182 := H180.2 q
        refine z_iconst (w := 0) dL_law_954 (by decide) ?_
        obtain ⟨hu, hv, rfl, rfl⟩ := H182
        exact z_zret dL_law_955 rfl (Or.inl rfl) hu hv
    by_cases q183 : ((xs x3.toNatClampNeg) &&& 63) = 17
    · have H184 := H2.2.2.2.2.2.2.2.2.2.2.2.2.2.2.2.2.2.2.1 q183
      have eq183 : (((xs x3.toNatClampNeg) &&& 63) : Int32).toInt = 17 := by rw [q183]; decide
      refine z_tableIn (off := 923) (t := 956) dL_law_33 (by rw [eq183]; decide) (by rw [eq183]; decide) (by rw [eq183]; rfl) (by decide) ?_
      refine z_aload_n 1 dL_law_956 rfl rfl (z_aload_n 0 dL_law_957 rfl rfl (z_iload_n 3 dL_law_958 rfl (z_iconst (w := 1) dL_law_959 (by decide) (z_iadd dL_law_960 (z_sld rfl dL_law_961 H184.1 ?_)))))
      obtain ⟨huc187, hvc187, oc187, w185, I186, c187, H188⟩ := H184.2
      refine z_virt (As := [.int (xs (x3 + 1).toNatClampNeg)]) (st := []) (r1 := (some (.int w185))) (h1 := (g, I186, P)) dL_law_962 kX11_twice wm_L_89 ⟨by decide, by decide⟩ rfl rfl (Nat.le_of_ble_eq_true rfl) huc187 hvc187 oc187 c187 ?_
      refine z_aload_n 2 dL_law_965 rfl rfl (z_aload_n 0 dL_law_966 rfl rfl (z_iload_n 3 dL_law_967 rfl (z_iconst (w := 1) dL_law_968 (by decide) (z_iadd dL_law_969 (z_sld rfl dL_law_970 H188.1 ?_)))))
      obtain ⟨huc191, hvc191, oc191, w189, I190, c191, H192⟩ := H188.2
      refine z_virt (As := [.int (xs (x3 + 1).toNatClampNeg)]) (st := [.int w185]) (r1 := (some (.int w189))) (h1 := (g, I190, P)) dL_law_971 kX12_twice wm_L_92 ⟨by decide, by decide⟩ rfl rfl (Nat.le_of_ble_eq_true rfl) huc191 hvc191 oc191 c191 ?_
      refine z_icmp_eq (t := 1705) dL_law_974 (by decide) (fun q => ?_) (fun q => ?_)
      · have H193 := H192.1 q
        refine z_iinc (y := x3 + 6) (lv' := [(3, .int (x3 + 6)), (0, .retAddr 1000), (1, .ref a1), (2, .ref a2)]) 3 dL_law_1705 rfl rfl (by decide) rfl (z_goto (t := 18) dL_law_1708 (by decide) ?_)
        exact z_less [1, 2, 3, 0] rfl H193
      · have H194 := H192.2 q
        refine z_iconst (w := 0) dL_law_977 (by decide) ?_
        obtain ⟨hu, hv, rfl, rfl⟩ := H194
        exact z_zret dL_law_978 rfl (Or.inl rfl) hu hv
    by_cases q195 : ((xs x3.toNatClampNeg) &&& 63) = 18
    · have H196 := H2.2.2.2.2.2.2.2.2.2.2.2.2.2.2.2.2.2.2.2.1 q195
      have eq195 : (((xs x3.toNatClampNeg) &&& 63) : Int32).toInt = 18 := by rw [q195]; decide
      refine z_tableIn (off := 946) (t := 979) dL_law_33 (by rw [eq195]; decide) (by rw [eq195]; decide) (by rw [eq195]; rfl) (by decide) ?_
      refine z_aload_n 1 dL_law_979 rfl rfl (z_aload_n 0 dL_law_980 rfl rfl (z_iload_n 3 dL_law_981 rfl (z_iconst (w := 1) dL_law_982 (by decide) (z_iadd dL_law_983 (z_sld rfl dL_law_984 H196.1 (z_aload_n 0 dL_law_985 rfl rfl (z_iload_n 3 dL_law_986 rfl (z_iconst (w := 2) dL_law_987 (by decide) (z_iadd dL_law_988 (z_sld rfl dL_law_989 H196.2.1 ?_))))))))))
      refine z_if_eq (t := 997) dL_law_990 (by decide) (fun q => ?_) (fun q => ?_)
      · have H197 := H196.2.2.1 q
        refine z_iconst (w := 0) dL_law_997 (by decide) ?_
        exact z_less [0, 1, 2, 3] rfl H197
      · have H198 := H196.2.2.2 q
        refine z_iconst (w := 1) dL_law_993 (by decide) (z_goto (t := 998) dL_law_994 (by decide) ?_)
        exact z_less [0, 1, 2, 3] rfl H198
    by_cases q199 : ((xs x3.toNatClampNeg) &&& 63) = 19
    · have H200 := H2.2.2.2.2.2.2.2.2.2.2.2.2.2.2.2.2.2.2.2.2.1 q199
      have eq199 : (((xs x3.toNatClampNeg) &&& 63) : Int32).toInt = 19 := by rw [q199]; decide
      refine z_tableIn (off := 995) (t := 1028) dL_law_33 (by rw [eq199]; decide) (by rw [eq199]; decide) (by rw [eq199]; rfl) (by decide) ?_
      refine z_aload_n 1 dL_law_1028 rfl rfl (z_aload_n 0 dL_law_1029 rfl rfl (z_iload_n 3 dL_law_1030 rfl (z_iconst (w := 1) dL_law_1031 (by decide) (z_iadd dL_law_1032 (z_sld rfl dL_law_1033 H200.1 (z_aload_n 0 dL_law_1034 rfl rfl (z_iload_n 3 dL_law_1035 rfl (z_iconst (w := 2) dL_law_1036 (by decide) (z_iadd dL_law_1037 (z_sld rfl dL_law_1038 H200.2.1 (z_aload_n 0 dL_law_1039 rfl rfl (z_iload_n 3 dL_law_1040 rfl (z_iconst (w := 3) dL_law_1041 (by decide) (z_iadd dL_law_1042 (z_sld rfl dL_law_1043 H200.2.2.1 ?_)))))))))))))))
      obtain ⟨huc202, hvc202, oc202, w201, c202, H203⟩ := H200.2.2.2
      refine z_virt (As := [.int (xs (x3 + 1).toNatClampNeg), .int (xs (x3 + 2).toNatClampNeg), .int (xs (x3 + 3).toNatClampNeg)]) (st := []) (r1 := (some (.int w201))) (h1 := (g, I, P)) dL_law_1044 kX11_fact wm_L_98 ⟨by decide, by decide⟩ rfl rfl (Nat.le_of_ble_eq_true rfl) huc202 hvc202 oc202 c202 ?_
      refine z_aload_n 2 dL_law_1047 rfl rfl (z_aload_n 0 dL_law_1048 rfl rfl (z_iload_n 3 dL_law_1049 rfl (z_iconst (w := 1) dL_law_1050 (by decide) (z_iadd dL_law_1051 (z_sld rfl dL_law_1052 H203.1 (z_aload_n 0 dL_law_1053 rfl rfl (z_iload_n 3 dL_law_1054 rfl (z_iconst (w := 2) dL_law_1055 (by decide) (z_iadd dL_law_1056 (z_sld rfl dL_law_1057 H203.2.1 (z_aload_n 0 dL_law_1058 rfl rfl (z_iload_n 3 dL_law_1059 rfl (z_iconst (w := 3) dL_law_1060 (by decide) (z_iadd dL_law_1061 (z_sld rfl dL_law_1062 H203.2.2.1 ?_)))))))))))))))
      obtain ⟨huc206, hvc206, oc206, w204, I205, c206, H207⟩ := H203.2.2.2
      refine z_virt (As := [.int (xs (x3 + 1).toNatClampNeg), .int (xs (x3 + 2).toNatClampNeg), .int (xs (x3 + 3).toNatClampNeg)]) (st := [.int w201]) (r1 := (some (.int w204))) (h1 := (g, I205, P)) dL_law_1063 kX12_fact wm_L_101 ⟨by decide, by decide⟩ rfl rfl (Nat.le_of_ble_eq_true rfl) huc206 hvc206 oc206 c206 ?_
      refine z_icmp_eq (t := 1705) dL_law_1066 (by decide) (fun q => ?_) (fun q => ?_)
      · have H208 := H207.1 q
        refine z_iinc (y := x3 + 6) (lv' := [(3, .int (x3 + 6)), (0, .retAddr 1000), (1, .ref a1), (2, .ref a2)]) 3 dL_law_1705 rfl rfl (by decide) rfl (z_goto (t := 18) dL_law_1708 (by decide) ?_)
        exact z_less [1, 2, 3, 0] rfl H208
      · have H209 := H207.2 q
        refine z_iconst (w := 0) dL_law_1069 (by decide) ?_
        obtain ⟨hu, hv, rfl, rfl⟩ := H209
        exact z_zret dL_law_1070 rfl (Or.inl rfl) hu hv
    by_cases q210 : ((xs x3.toNatClampNeg) &&& 63) = 20
    · have H211 := H2.2.2.2.2.2.2.2.2.2.2.2.2.2.2.2.2.2.2.2.2.2.1 q210
      have eq210 : (((xs x3.toNatClampNeg) &&& 63) : Int32).toInt = 20 := by rw [q210]; decide
      refine z_tableIn (off := 1038) (t := 1071) dL_law_33 (by rw [eq210]; decide) (by rw [eq210]; decide) (by rw [eq210]; rfl) (by decide) ?_
      refine z_aload_n 1 dL_law_1071 rfl rfl (z_aload_n 0 dL_law_1072 rfl rfl (z_iload_n 3 dL_law_1073 rfl (z_iconst (w := 1) dL_law_1074 (by decide) (z_iadd dL_law_1075 (z_sld rfl dL_law_1076 H211.1 (z_aload_n 0 dL_law_1077 rfl rfl (z_iload_n 3 dL_law_1078 rfl (z_iconst (w := 2) dL_law_1079 (by decide) (z_iadd dL_law_1080 (z_sld rfl dL_law_1081 H211.2.1 ?_))))))))))
      obtain ⟨huc215, hvc215, oc215, w212, I213, P214, c215, H216⟩ := H211.2.2
      refine z_virt (As := [.int (xs (x3 + 1).toNatClampNeg), .int (xs (x3 + 2).toNatClampNeg)]) (st := []) (r1 := (some (.int w212))) (h1 := (g, I213, P214)) dL_law_1082 kX11_forged wm_L_102 ⟨by decide, by decide⟩ rfl rfl (Nat.le_of_ble_eq_true rfl) huc215 hvc215 oc215 c215 ?_
      refine z_aload_n 2 dL_law_1085 rfl rfl (z_aload_n 0 dL_law_1086 rfl rfl (z_iload_n 3 dL_law_1087 rfl (z_iconst (w := 1) dL_law_1088 (by decide) (z_iadd dL_law_1089 (z_sld rfl dL_law_1090 H216.1 (z_aload_n 0 dL_law_1091 rfl rfl (z_iload_n 3 dL_law_1092 rfl (z_iconst (w := 2) dL_law_1093 (by decide) (z_iadd dL_law_1094 (z_sld rfl dL_law_1095 H216.2.1 ?_))))))))))
      obtain ⟨huc219, hvc219, oc219, w217, I218, c219, H220⟩ := H216.2.2
      refine z_virt (As := [.int (xs (x3 + 1).toNatClampNeg), .int (xs (x3 + 2).toNatClampNeg)]) (st := [.int w212]) (r1 := (some (.int w217))) (h1 := (g, I218, P214)) dL_law_1096 kX12_forged wm_L_105 ⟨by decide, by decide⟩ rfl rfl (Nat.le_of_ble_eq_true rfl) huc219 hvc219 oc219 c219 ?_
      refine z_icmp_eq (t := 1705) dL_law_1099 (by decide) (fun q => ?_) (fun q => ?_)
      · have H221 := H220.1 q
        refine z_iinc (y := x3 + 6) (lv' := [(3, .int (x3 + 6)), (0, .retAddr 1000), (1, .ref a1), (2, .ref a2)]) 3 dL_law_1705 rfl rfl (by decide) rfl (z_goto (t := 18) dL_law_1708 (by decide) ?_)
        exact z_less [1, 2, 3, 0] rfl H221
      · have H222 := H220.2 q
        refine z_iconst (w := 0) dL_law_1102 (by decide) ?_
        obtain ⟨hu, hv, rfl, rfl⟩ := H222
        exact z_zret dL_law_1103 rfl (Or.inl rfl) hu hv
    by_cases q223 : ((xs x3.toNatClampNeg) &&& 63) = 21
    · have H224 := H2.2.2.2.2.2.2.2.2.2.2.2.2.2.2.2.2.2.2.2.2.2.2.1 q223
      have eq223 : (((xs x3.toNatClampNeg) &&& 63) : Int32).toInt = 21 := by rw [q223]; decide
      refine z_tableIn (off := 1071) (t := 1104) dL_law_33 (by rw [eq223]; decide) (by rw [eq223]; decide) (by rw [eq223]; rfl) (by decide) ?_
      refine z_aload_n 1 dL_law_1104 rfl rfl (z_aload_n 0 dL_law_1105 rfl rfl (z_iload_n 3 dL_law_1106 rfl (z_iconst (w := 1) dL_law_1107 (by decide) (z_iadd dL_law_1108 (z_sld rfl dL_law_1109 H224.1 (z_aload_n 0 dL_law_1110 rfl rfl (z_iload_n 3 dL_law_1111 rfl (z_iconst (w := 2) dL_law_1112 (by decide) (z_iadd dL_law_1113 (z_sld rfl dL_law_1114 H224.2.1 (z_aload_n 0 dL_law_1115 rfl rfl (z_iload_n 3 dL_law_1116 rfl (z_iconst (w := 3) dL_law_1117 (by decide) (z_iadd dL_law_1118 (z_sld rfl dL_law_1119 H224.2.2.1 (z_aload_n 0 dL_law_1120 rfl rfl (z_iload_n 3 dL_law_1121 rfl (z_iconst (w := 4) dL_law_1122 (by decide) (z_iadd dL_law_1123 (z_sld rfl dL_law_1124 H224.2.2.2.1 ?_))))))))))))))))))))
      refine z_if_eq (t := 1132) dL_law_1125 (by decide) (fun q => ?_) (fun q => ?_)
      · have H225 := H224.2.2.2.2.1 q
        refine z_iconst (w := 0) dL_law_1132 (by decide) ?_
        exact z_less [0, 1, 2, 3] rfl H225
      · have H226 := H224.2.2.2.2.2 q
        refine z_iconst (w := 1) dL_law_1128 (by decide) (z_goto (t := 1133) dL_law_1129 (by decide) ?_)
        exact z_less [0, 1, 2, 3] rfl H226
    by_cases q227 : ((xs x3.toNatClampNeg) &&& 63) = 22
    · have H228 := H2.2.2.2.2.2.2.2.2.2.2.2.2.2.2.2.2.2.2.2.2.2.2.2.1 q227
      have eq227 : (((xs x3.toNatClampNeg) &&& 63) : Int32).toInt = 22 := by rw [q227]; decide
      refine z_tableIn (off := 1141) (t := 1174) dL_law_33 (by rw [eq227]; decide) (by rw [eq227]; decide) (by rw [eq227]; rfl) (by decide) ?_
      refine z_aload_n 1 dL_law_1174 rfl rfl (z_aload_n 0 dL_law_1175 rfl rfl (z_iload_n 3 dL_law_1176 rfl (z_iconst (w := 1) dL_law_1177 (by decide) (z_iadd dL_law_1178 (z_sld rfl dL_law_1179 H228.1 (z_aload_n 0 dL_law_1180 rfl rfl (z_iload_n 3 dL_law_1181 rfl (z_iconst (w := 2) dL_law_1182 (by decide) (z_iadd dL_law_1183 (z_sld rfl dL_law_1184 H228.2.1 (z_aload_n 0 dL_law_1185 rfl rfl (z_iload_n 3 dL_law_1186 rfl (z_iconst (w := 3) dL_law_1187 (by decide) (z_iadd dL_law_1188 (z_sld rfl dL_law_1189 H228.2.2.1 (z_aload_n 0 dL_law_1190 rfl rfl (z_iload_n 3 dL_law_1191 rfl (z_iconst (w := 4) dL_law_1192 (by decide) (z_iadd dL_law_1193 (z_sld rfl dL_law_1194 H228.2.2.2.1 ?_))))))))))))))))))))
      obtain ⟨huc232, hvc232, oc232, w229, I230, P231, c232, H233⟩ := H228.2.2.2.2
      refine z_virt (As := [.int (xs (x3 + 1).toNatClampNeg), .int (xs (x3 + 2).toNatClampNeg), .int (xs (x3 + 3).toNatClampNeg), .int (xs (x3 + 4).toNatClampNeg)]) (st := []) (r1 := (some (.int w229))) (h1 := (g, I230, P231)) dL_law_1195 kX11_drawn wm_L_110 ⟨by decide, by decide⟩ rfl rfl (Nat.le_of_ble_eq_true rfl) huc232 hvc232 oc232 c232 ?_
      refine z_aload_n 2 dL_law_1198 rfl rfl (z_aload_n 0 dL_law_1199 rfl rfl (z_iload_n 3 dL_law_1200 rfl (z_iconst (w := 1) dL_law_1201 (by decide) (z_iadd dL_law_1202 (z_sld rfl dL_law_1203 H233.1 (z_aload_n 0 dL_law_1204 rfl rfl (z_iload_n 3 dL_law_1205 rfl (z_iconst (w := 2) dL_law_1206 (by decide) (z_iadd dL_law_1207 (z_sld rfl dL_law_1208 H233.2.1 (z_aload_n 0 dL_law_1209 rfl rfl (z_iload_n 3 dL_law_1210 rfl (z_iconst (w := 3) dL_law_1211 (by decide) (z_iadd dL_law_1212 (z_sld rfl dL_law_1213 H233.2.2.1 (z_aload_n 0 dL_law_1214 rfl rfl (z_iload_n 3 dL_law_1215 rfl (z_iconst (w := 4) dL_law_1216 (by decide) (z_iadd dL_law_1217 (z_sld rfl dL_law_1218 H233.2.2.2.1 ?_))))))))))))))))))))
      obtain ⟨huc236, hvc236, oc236, w234, I235, c236, H237⟩ := H233.2.2.2.2
      refine z_virt (As := [.int (xs (x3 + 1).toNatClampNeg), .int (xs (x3 + 2).toNatClampNeg), .int (xs (x3 + 3).toNatClampNeg), .int (xs (x3 + 4).toNatClampNeg)]) (st := [.int w229]) (r1 := (some (.int w234))) (h1 := (g, I235, P231)) dL_law_1219 kX12_drawn wm_L_113 ⟨by decide, by decide⟩ rfl rfl (Nat.le_of_ble_eq_true rfl) huc236 hvc236 oc236 c236 ?_
      refine z_icmp_eq (t := 1705) dL_law_1222 (by decide) (fun q => ?_) (fun q => ?_)
      · have H238 := H237.1 q
        refine z_iinc (y := x3 + 6) (lv' := [(3, .int (x3 + 6)), (0, .retAddr 1000), (1, .ref a1), (2, .ref a2)]) 3 dL_law_1705 rfl rfl (by decide) rfl (z_goto (t := 18) dL_law_1708 (by decide) ?_)
        exact z_less [1, 2, 3, 0] rfl H238
      · have H239 := H237.2 q
        refine z_iconst (w := 0) dL_law_1225 (by decide) ?_
        obtain ⟨hu, hv, rfl, rfl⟩ := H239
        exact z_zret dL_law_1226 rfl (Or.inl rfl) hu hv
    by_cases q240 : ((xs x3.toNatClampNeg) &&& 63) = 23
    · have H241 := H2.2.2.2.2.2.2.2.2.2.2.2.2.2.2.2.2.2.2.2.2.2.2.2.2.1 q240
      have eq240 : (((xs x3.toNatClampNeg) &&& 63) : Int32).toInt = 23 := by rw [q240]; decide
      refine z_tableIn (off := 1194) (t := 1227) dL_law_33 (by rw [eq240]; decide) (by rw [eq240]; decide) (by rw [eq240]; rfl) (by decide) ?_
      refine z_aload_n 1 dL_law_1227 rfl rfl (z_aload_n 0 dL_law_1228 rfl rfl (z_iload_n 3 dL_law_1229 rfl (z_iconst (w := 1) dL_law_1230 (by decide) (z_iadd dL_law_1231 (z_sld rfl dL_law_1232 H241.1 (z_aload_n 0 dL_law_1233 rfl rfl (z_iload_n 3 dL_law_1234 rfl (z_iconst (w := 2) dL_law_1235 (by decide) (z_iadd dL_law_1236 (z_sld rfl dL_law_1237 H241.2.1 (z_aload_n 0 dL_law_1238 rfl rfl (z_iload_n 3 dL_law_1239 rfl (z_iconst (w := 3) dL_law_1240 (by decide) (z_iadd dL_law_1241 (z_sld rfl dL_law_1242 H241.2.2.1 (z_aload_n 0 dL_law_1243 rfl rfl (z_iload_n 3 dL_law_1244 rfl (z_iconst (w := 4) dL_law_1245 (by decide) (z_iadd dL_law_1246 (z_sld rfl dL_law_1247 H241.2.2.2.1 ?_))))))))))))))))))))
      obtain ⟨huc245, hvc245, oc245, w242, I243, P244, c245, H246⟩ := H241.2.2.2.2
      refine z_virt (As := [.int (xs (x3 + 1).toNatClampNeg), .int (xs (x3 + 2).toNatClampNeg), .int (xs (x3 + 3).toNatClampNeg), .int (xs (x3 + 4).toNatClampNeg)]) (st := []) (r1 := (some (.int w242))) (h1 := (g, I243, P244)) dL_law_1248 kX11_next wm_L_114 ⟨by decide, by decide⟩ rfl rfl (Nat.le_of_ble_eq_true rfl) huc245 hvc245 oc245 c245 ?_
      refine z_aload_n 2 dL_law_1251 rfl rfl (z_aload_n 0 dL_law_1252 rfl rfl (z_iload_n 3 dL_law_1253 rfl (z_iconst (w := 1) dL_law_1254 (by decide) (z_iadd dL_law_1255 (z_sld rfl dL_law_1256 H246.1 (z_aload_n 0 dL_law_1257 rfl rfl (z_iload_n 3 dL_law_1258 rfl (z_iconst (w := 2) dL_law_1259 (by decide) (z_iadd dL_law_1260 (z_sld rfl dL_law_1261 H246.2.1 (z_aload_n 0 dL_law_1262 rfl rfl (z_iload_n 3 dL_law_1263 rfl (z_iconst (w := 3) dL_law_1264 (by decide) (z_iadd dL_law_1265 (z_sld rfl dL_law_1266 H246.2.2.1 (z_aload_n 0 dL_law_1267 rfl rfl (z_iload_n 3 dL_law_1268 rfl (z_iconst (w := 4) dL_law_1269 (by decide) (z_iadd dL_law_1270 (z_sld rfl dL_law_1271 H246.2.2.2.1 ?_))))))))))))))))))))
      obtain ⟨huc249, hvc249, oc249, w247, I248, c249, H250⟩ := H246.2.2.2.2
      refine z_virt (As := [.int (xs (x3 + 1).toNatClampNeg), .int (xs (x3 + 2).toNatClampNeg), .int (xs (x3 + 3).toNatClampNeg), .int (xs (x3 + 4).toNatClampNeg)]) (st := [.int w242]) (r1 := (some (.int w247))) (h1 := (g, I248, P244)) dL_law_1272 kX12_next wm_L_117 ⟨by decide, by decide⟩ rfl rfl (Nat.le_of_ble_eq_true rfl) huc249 hvc249 oc249 c249 ?_
      refine z_icmp_eq (t := 1705) dL_law_1275 (by decide) (fun q => ?_) (fun q => ?_)
      · have H251 := H250.1 q
        refine z_iinc (y := x3 + 6) (lv' := [(3, .int (x3 + 6)), (0, .retAddr 1000), (1, .ref a1), (2, .ref a2)]) 3 dL_law_1705 rfl rfl (by decide) rfl (z_goto (t := 18) dL_law_1708 (by decide) ?_)
        exact z_less [1, 2, 3, 0] rfl H251
      · have H252 := H250.2 q
        refine z_iconst (w := 0) dL_law_1278 (by decide) ?_
        obtain ⟨hu, hv, rfl, rfl⟩ := H252
        exact z_zret dL_law_1279 rfl (Or.inl rfl) hu hv
    by_cases q253 : ((xs x3.toNatClampNeg) &&& 63) = 24
    · have H254 := H2.2.2.2.2.2.2.2.2.2.2.2.2.2.2.2.2.2.2.2.2.2.2.2.2.2.1 q253
      have eq253 : (((xs x3.toNatClampNeg) &&& 63) : Int32).toInt = 24 := by rw [q253]; decide
      refine z_tableIn (off := 1247) (t := 1280) dL_law_33 (by rw [eq253]; decide) (by rw [eq253]; decide) (by rw [eq253]; rfl) (by decide) ?_
      refine z_aload_n 1 dL_law_1280 rfl rfl (z_aload_n 0 dL_law_1281 rfl rfl (z_iload_n 3 dL_law_1282 rfl (z_iconst (w := 1) dL_law_1283 (by decide) (z_iadd dL_law_1284 (z_sld rfl dL_law_1285 H254.1 (z_aload_n 0 dL_law_1286 rfl rfl (z_iload_n 3 dL_law_1287 rfl (z_iconst (w := 2) dL_law_1288 (by decide) (z_iadd dL_law_1289 (z_sld rfl dL_law_1290 H254.2.1 (z_aload_n 0 dL_law_1291 rfl rfl (z_iload_n 3 dL_law_1292 rfl (z_iconst (w := 3) dL_law_1293 (by decide) (z_iadd dL_law_1294 (z_sld rfl dL_law_1295 H254.2.2.1 (z_aload_n 0 dL_law_1296 rfl rfl (z_iload_n 3 dL_law_1297 rfl (z_iconst (w := 4) dL_law_1298 (by decide) (z_iadd dL_law_1299 (z_sld rfl dL_law_1300 H254.2.2.2.1 ?_))))))))))))))))))))
      refine z_if_eq (t := 1308) dL_law_1301 (by decide) (fun q => ?_) (fun q => ?_)
      · have H255 := H254.2.2.2.2.1 q
        refine z_iconst (w := 0) dL_law_1308 (by decide) ?_
        exact z_less [0, 1, 2, 3] rfl H255
      · have H256 := H254.2.2.2.2.2 q
        refine z_iconst (w := 1) dL_law_1304 (by decide) (z_goto (t := 1309) dL_law_1305 (by decide) ?_)
        exact z_less [0, 1, 2, 3] rfl H256
    by_cases q257 : ((xs x3.toNatClampNeg) &&& 63) = 25
    · have H258 := H2.2.2.2.2.2.2.2.2.2.2.2.2.2.2.2.2.2.2.2.2.2.2.2.2.2.2.1 q257
      have eq257 : (((xs x3.toNatClampNeg) &&& 63) : Int32).toInt = 25 := by rw [q257]; decide
      refine z_tableIn (off := 1316) (t := 1349) dL_law_33 (by rw [eq257]; decide) (by rw [eq257]; decide) (by rw [eq257]; rfl) (by decide) ?_
      refine z_aload_n 1 dL_law_1349 rfl rfl (z_aload_n 0 dL_law_1350 rfl rfl (z_iload_n 3 dL_law_1351 rfl (z_iconst (w := 1) dL_law_1352 (by decide) (z_iadd dL_law_1353 (z_sld rfl dL_law_1354 H258.1 (z_aload_n 0 dL_law_1355 rfl rfl (z_iload_n 3 dL_law_1356 rfl (z_iconst (w := 2) dL_law_1357 (by decide) (z_iadd dL_law_1358 (z_sld rfl dL_law_1359 H258.2.1 (z_aload_n 0 dL_law_1360 rfl rfl (z_iload_n 3 dL_law_1361 rfl (z_iconst (w := 3) dL_law_1362 (by decide) (z_iadd dL_law_1363 (z_sld rfl dL_law_1364 H258.2.2.1 (z_aload_n 0 dL_law_1365 rfl rfl (z_iload_n 3 dL_law_1366 rfl (z_iconst (w := 4) dL_law_1367 (by decide) (z_iadd dL_law_1368 (z_sld rfl dL_law_1369 H258.2.2.2.1 ?_))))))))))))))))))))
      refine z_if_eq (t := 1377) dL_law_1370 (by decide) (fun q => ?_) (fun q => ?_)
      · have H259 := H258.2.2.2.2.1 q
        refine z_iconst (w := 0) dL_law_1377 (by decide) ?_
        exact z_less [0, 1, 2, 3] rfl H259
      · have H260 := H258.2.2.2.2.2 q
        refine z_iconst (w := 1) dL_law_1373 (by decide) (z_goto (t := 1378) dL_law_1374 (by decide) ?_)
        exact z_less [0, 1, 2, 3] rfl H260
    by_cases q261 : ((xs x3.toNatClampNeg) &&& 63) = 26
    · have H262 := H2.2.2.2.2.2.2.2.2.2.2.2.2.2.2.2.2.2.2.2.2.2.2.2.2.2.2.2.1 q261
      have eq261 : (((xs x3.toNatClampNeg) &&& 63) : Int32).toInt = 26 := by rw [q261]; decide
      refine z_tableIn (off := 1385) (t := 1418) dL_law_33 (by rw [eq261]; decide) (by rw [eq261]; decide) (by rw [eq261]; rfl) (by decide) ?_
      refine z_aload_n 1 dL_law_1418 rfl rfl (z_aload_n 0 dL_law_1419 rfl rfl (z_iload_n 3 dL_law_1420 rfl (z_iconst (w := 1) dL_law_1421 (by decide) (z_iadd dL_law_1422 (z_sld rfl dL_law_1423 H262.1 (z_aload_n 0 dL_law_1424 rfl rfl (z_iload_n 3 dL_law_1425 rfl (z_iconst (w := 2) dL_law_1426 (by decide) (z_iadd dL_law_1427 (z_sld rfl dL_law_1428 H262.2.1 ?_))))))))))
      obtain ⟨huc265, hvc265, oc265, w263, I264, c265, H266⟩ := H262.2.2
      refine z_virt (As := [.int (xs (x3 + 1).toNatClampNeg), .int (xs (x3 + 2).toNatClampNeg)]) (st := []) (r1 := (some (.int w263))) (h1 := (g, I264, P)) dL_law_1429 kX11_tree wm_L_127 ⟨by decide, by decide⟩ rfl rfl (Nat.le_of_ble_eq_true rfl) huc265 hvc265 oc265 c265 ?_
      refine z_aload_n 2 dL_law_1432 rfl rfl (z_aload_n 0 dL_law_1433 rfl rfl (z_iload_n 3 dL_law_1434 rfl (z_iconst (w := 1) dL_law_1435 (by decide) (z_iadd dL_law_1436 (z_sld rfl dL_law_1437 H266.1 (z_aload_n 0 dL_law_1438 rfl rfl (z_iload_n 3 dL_law_1439 rfl (z_iconst (w := 2) dL_law_1440 (by decide) (z_iadd dL_law_1441 (z_sld rfl dL_law_1442 H266.2.1 ?_))))))))))
      obtain ⟨huc269, hvc269, oc269, w267, I268, c269, H270⟩ := H266.2.2
      refine z_virt (As := [.int (xs (x3 + 1).toNatClampNeg), .int (xs (x3 + 2).toNatClampNeg)]) (st := [.int w263]) (r1 := (some (.int w267))) (h1 := (g, I268, P)) dL_law_1443 kX12_tree wm_L_130 ⟨by decide, by decide⟩ rfl rfl (Nat.le_of_ble_eq_true rfl) huc269 hvc269 oc269 c269 ?_
      refine z_icmp_eq (t := 1705) dL_law_1446 (by decide) (fun q => ?_) (fun q => ?_)
      · have H271 := H270.1 q
        refine z_iinc (y := x3 + 6) (lv' := [(3, .int (x3 + 6)), (0, .retAddr 1000), (1, .ref a1), (2, .ref a2)]) 3 dL_law_1705 rfl rfl (by decide) rfl (z_goto (t := 18) dL_law_1708 (by decide) ?_)
        exact z_less [1, 2, 3, 0] rfl H271
      · have H272 := H270.2 q
        refine z_iconst (w := 0) dL_law_1449 (by decide) ?_
        obtain ⟨hu, hv, rfl, rfl⟩ := H272
        exact z_zret dL_law_1450 rfl (Or.inl rfl) hu hv
    by_cases q273 : ((xs x3.toNatClampNeg) &&& 63) = 27
    · have H274 := H2.2.2.2.2.2.2.2.2.2.2.2.2.2.2.2.2.2.2.2.2.2.2.2.2.2.2.2.2.1 q273
      have eq273 : (((xs x3.toNatClampNeg) &&& 63) : Int32).toInt = 27 := by rw [q273]; decide
      refine z_tableIn (off := 1418) (t := 1451) dL_law_33 (by rw [eq273]; decide) (by rw [eq273]; decide) (by rw [eq273]; rfl) (by decide) ?_
      refine z_aload_n 1 dL_law_1451 rfl rfl (z_aload_n 0 dL_law_1452 rfl rfl (z_iload_n 3 dL_law_1453 rfl (z_iconst (w := 1) dL_law_1454 (by decide) (z_iadd dL_law_1455 (z_sld rfl dL_law_1456 H274.1 (z_aload_n 0 dL_law_1457 rfl rfl (z_iload_n 3 dL_law_1458 rfl (z_iconst (w := 2) dL_law_1459 (by decide) (z_iadd dL_law_1460 (z_sld rfl dL_law_1461 H274.2.1 ?_))))))))))
      obtain ⟨huc277, hvc277, oc277, w275, I276, c277, H278⟩ := H274.2.2
      refine z_virt (As := [.int (xs (x3 + 1).toNatClampNeg), .int (xs (x3 + 2).toNatClampNeg)]) (st := []) (r1 := (some (.int w275))) (h1 := (g, I276, P)) dL_law_1462 kX11_chain wm_L_131 ⟨by decide, by decide⟩ rfl rfl (Nat.le_of_ble_eq_true rfl) huc277 hvc277 oc277 c277 ?_
      refine z_aload_n 2 dL_law_1465 rfl rfl (z_aload_n 0 dL_law_1466 rfl rfl (z_iload_n 3 dL_law_1467 rfl (z_iconst (w := 1) dL_law_1468 (by decide) (z_iadd dL_law_1469 (z_sld rfl dL_law_1470 H278.1 (z_aload_n 0 dL_law_1471 rfl rfl (z_iload_n 3 dL_law_1472 rfl (z_iconst (w := 2) dL_law_1473 (by decide) (z_iadd dL_law_1474 (z_sld rfl dL_law_1475 H278.2.1 ?_))))))))))
      obtain ⟨huc281, hvc281, oc281, w279, I280, c281, H282⟩ := H278.2.2
      refine z_virt (As := [.int (xs (x3 + 1).toNatClampNeg), .int (xs (x3 + 2).toNatClampNeg)]) (st := [.int w275]) (r1 := (some (.int w279))) (h1 := (g, I280, P)) dL_law_1476 kX12_chain wm_L_134 ⟨by decide, by decide⟩ rfl rfl (Nat.le_of_ble_eq_true rfl) huc281 hvc281 oc281 c281 ?_
      refine z_icmp_eq (t := 1705) dL_law_1479 (by decide) (fun q => ?_) (fun q => ?_)
      · have H283 := H282.1 q
        refine z_iinc (y := x3 + 6) (lv' := [(3, .int (x3 + 6)), (0, .retAddr 1000), (1, .ref a1), (2, .ref a2)]) 3 dL_law_1705 rfl rfl (by decide) rfl (z_goto (t := 18) dL_law_1708 (by decide) ?_)
        exact z_less [1, 2, 3, 0] rfl H283
      · have H284 := H282.2 q
        refine z_iconst (w := 0) dL_law_1482 (by decide) ?_
        obtain ⟨hu, hv, rfl, rfl⟩ := H284
        exact z_zret dL_law_1483 rfl (Or.inl rfl) hu hv
    by_cases q285 : ((xs x3.toNatClampNeg) &&& 63) = 28
    · have H286 := H2.2.2.2.2.2.2.2.2.2.2.2.2.2.2.2.2.2.2.2.2.2.2.2.2.2.2.2.2.2.1 q285
      have eq285 : (((xs x3.toNatClampNeg) &&& 63) : Int32).toInt = 28 := by rw [q285]; decide
      refine z_tableIn (off := 1451) (t := 1484) dL_law_33 (by rw [eq285]; decide) (by rw [eq285]; decide) (by rw [eq285]; rfl) (by decide) ?_
      refine z_aload_n 1 dL_law_1484 rfl rfl (z_aload_n 0 dL_law_1485 rfl rfl (z_iload_n 3 dL_law_1486 rfl (z_iconst (w := 1) dL_law_1487 (by decide) (z_iadd dL_law_1488 (z_sld rfl dL_law_1489 H286.1 (z_aload_n 0 dL_law_1490 rfl rfl (z_iload_n 3 dL_law_1491 rfl (z_iconst (w := 2) dL_law_1492 (by decide) (z_iadd dL_law_1493 (z_sld rfl dL_law_1494 H286.2.1 (z_aload_n 0 dL_law_1495 rfl rfl (z_iload_n 3 dL_law_1496 rfl (z_iconst (w := 3) dL_law_1497 (by decide) (z_iadd dL_law_1498 (z_sld rfl dL_law_1499 H286.2.2.1 ?_)))))))))))))))
      obtain ⟨huc290, hvc290, oc290, w287, I288, P289, c290, H291⟩ := H286.2.2.2
      refine z_virt (As := [.int (xs (x3 + 1).toNatClampNeg), .int (xs (x3 + 2).toNatClampNeg), .int (xs (x3 + 3).toNatClampNeg)]) (st := []) (r1 := (some (.int w287))) (h1 := (g, I288, P289)) dL_law_1500 kX11_after wm_L_135 ⟨by decide, by decide⟩ rfl rfl (Nat.le_of_ble_eq_true rfl) huc290 hvc290 oc290 c290 ?_
      refine z_aload_n 2 dL_law_1503 rfl rfl (z_aload_n 0 dL_law_1504 rfl rfl (z_iload_n 3 dL_law_1505 rfl (z_iconst (w := 1) dL_law_1506 (by decide) (z_iadd dL_law_1507 (z_sld rfl dL_law_1508 H291.1 (z_aload_n 0 dL_law_1509 rfl rfl (z_iload_n 3 dL_law_1510 rfl (z_iconst (w := 2) dL_law_1511 (by decide) (z_iadd dL_law_1512 (z_sld rfl dL_law_1513 H291.2.1 (z_aload_n 0 dL_law_1514 rfl rfl (z_iload_n 3 dL_law_1515 rfl (z_iconst (w := 3) dL_law_1516 (by decide) (z_iadd dL_law_1517 (z_sld rfl dL_law_1518 H291.2.2.1 ?_)))))))))))))))
      obtain ⟨huc294, hvc294, oc294, w292, I293, c294, H295⟩ := H291.2.2.2
      refine z_virt (As := [.int (xs (x3 + 1).toNatClampNeg), .int (xs (x3 + 2).toNatClampNeg), .int (xs (x3 + 3).toNatClampNeg)]) (st := [.int w287]) (r1 := (some (.int w292))) (h1 := (g, I293, P289)) dL_law_1519 kX12_after wm_L_138 ⟨by decide, by decide⟩ rfl rfl (Nat.le_of_ble_eq_true rfl) huc294 hvc294 oc294 c294 ?_
      refine z_icmp_eq (t := 1705) dL_law_1522 (by decide) (fun q => ?_) (fun q => ?_)
      · have H296 := H295.1 q
        refine z_iinc (y := x3 + 6) (lv' := [(3, .int (x3 + 6)), (0, .retAddr 1000), (1, .ref a1), (2, .ref a2)]) 3 dL_law_1705 rfl rfl (by decide) rfl (z_goto (t := 18) dL_law_1708 (by decide) ?_)
        exact z_less [1, 2, 3, 0] rfl H296
      · have H297 := H295.2 q
        refine z_iconst (w := 0) dL_law_1525 (by decide) ?_
        obtain ⟨hu, hv, rfl, rfl⟩ := H297
        exact z_zret dL_law_1526 rfl (Or.inl rfl) hu hv
    by_cases q298 : ((xs x3.toNatClampNeg) &&& 63) = 29
    · have H299 := H2.2.2.2.2.2.2.2.2.2.2.2.2.2.2.2.2.2.2.2.2.2.2.2.2.2.2.2.2.2.2.1 q298
      have eq298 : (((xs x3.toNatClampNeg) &&& 63) : Int32).toInt = 29 := by rw [q298]; decide
      refine z_tableIn (off := 1494) (t := 1527) dL_law_33 (by rw [eq298]; decide) (by rw [eq298]; decide) (by rw [eq298]; rfl) (by decide) ?_
      refine z_aload_n 1 dL_law_1527 rfl rfl (z_aload_n 0 dL_law_1528 rfl rfl (z_iload_n 3 dL_law_1529 rfl (z_iconst (w := 1) dL_law_1530 (by decide) (z_iadd dL_law_1531 (z_sld rfl dL_law_1532 H299.1 (z_aload_n 0 dL_law_1533 rfl rfl (z_iload_n 3 dL_law_1534 rfl (z_iconst (w := 2) dL_law_1535 (by decide) (z_iadd dL_law_1536 (z_sld rfl dL_law_1537 H299.2.1 ?_))))))))))
      refine z_if_eq (t := 1545) dL_law_1538 (by decide) (fun q => ?_) (fun q => ?_)
      · have H300 := H299.2.2.1 q
        refine z_iconst (w := 0) dL_law_1545 (by decide) ?_
        exact z_less [0, 1, 2, 3] rfl H300
      · have H301 := H299.2.2.2 q
        refine z_iconst (w := 1) dL_law_1541 (by decide) (z_goto (t := 1546) dL_law_1542 (by decide) ?_)
        exact z_less [0, 1, 2, 3] rfl H301
    by_cases q302 : ((xs x3.toNatClampNeg) &&& 63) = 30
    · have H303 := H2.2.2.2.2.2.2.2.2.2.2.2.2.2.2.2.2.2.2.2.2.2.2.2.2.2.2.2.2.2.2.2.1 q302
      have eq302 : (((xs x3.toNatClampNeg) &&& 63) : Int32).toInt = 30 := by rw [q302]; decide
      refine z_tableIn (off := 1543) (t := 1576) dL_law_33 (by rw [eq302]; decide) (by rw [eq302]; decide) (by rw [eq302]; rfl) (by decide) ?_
      refine z_aload_n 1 dL_law_1576 rfl rfl (z_aload_n 0 dL_law_1577 rfl rfl (z_iload_n 3 dL_law_1578 rfl (z_iconst (w := 1) dL_law_1579 (by decide) (z_iadd dL_law_1580 (z_sld rfl dL_law_1581 H303.1 (z_aload_n 0 dL_law_1582 rfl rfl (z_iload_n 3 dL_law_1583 rfl (z_iconst (w := 2) dL_law_1584 (by decide) (z_iadd dL_law_1585 (z_sld rfl dL_law_1586 H303.2.1 (z_aload_n 0 dL_law_1587 rfl rfl (z_iload_n 3 dL_law_1588 rfl (z_iconst (w := 3) dL_law_1589 (by decide) (z_iadd dL_law_1590 (z_sld rfl dL_law_1591 H303.2.2.1 ?_)))))))))))))))
      refine z_if_eq (t := 1599) dL_law_1592 (by decide) (fun q => ?_) (fun q => ?_)
      · have H304 := H303.2.2.2.1 q
        refine z_iconst (w := 0) dL_law_1599 (by decide) ?_
        exact z_less [0, 1, 2, 3] rfl H304
      · have H305 := H303.2.2.2.2 q
        refine z_iconst (w := 1) dL_law_1595 (by decide) (z_goto (t := 1600) dL_law_1596 (by decide) ?_)
        exact z_less [0, 1, 2, 3] rfl H305
    by_cases q306 : ((xs x3.toNatClampNeg) &&& 63) = 31
    · have H307 := H2.2.2.2.2.2.2.2.2.2.2.2.2.2.2.2.2.2.2.2.2.2.2.2.2.2.2.2.2.2.2.2.2.1 q306
      have eq306 : (((xs x3.toNatClampNeg) &&& 63) : Int32).toInt = 31 := by rw [q306]; decide
      refine z_tableIn (off := 1603) (t := 1636) dL_law_33 (by rw [eq306]; decide) (by rw [eq306]; decide) (by rw [eq306]; rfl) (by decide) ?_
      refine z_aload_n 1 dL_law_1636 rfl rfl (z_aload_n 0 dL_law_1637 rfl rfl (z_iload_n 3 dL_law_1638 rfl (z_iconst (w := 1) dL_law_1639 (by decide) (z_iadd dL_law_1640 (z_sld rfl dL_law_1641 H307.1 ?_)))))
      obtain ⟨huc309, hvc309, oc309, w308, c309, H310⟩ := H307.2
      refine z_virt (As := [.int (xs (x3 + 1).toNatClampNeg)]) (st := []) (r1 := (some (.int w308))) (h1 := (g, I, P)) dL_law_1642 kX11_count wm_L_147 ⟨by decide, by decide⟩ rfl rfl (Nat.le_of_ble_eq_true rfl) huc309 hvc309 oc309 c309 ?_
      refine z_aload_n 2 dL_law_1645 rfl rfl (z_aload_n 0 dL_law_1646 rfl rfl (z_iload_n 3 dL_law_1647 rfl (z_iconst (w := 1) dL_law_1648 (by decide) (z_iadd dL_law_1649 (z_sld rfl dL_law_1650 H310.1 ?_)))))
      obtain ⟨huc312, hvc312, oc312, w311, c312, H313⟩ := H310.2
      refine z_virt (As := [.int (xs (x3 + 1).toNatClampNeg)]) (st := [.int w308]) (r1 := (some (.int w311))) (h1 := (g, I, P)) dL_law_1651 kX12_count wm_L_150 ⟨by decide, by decide⟩ rfl rfl (Nat.le_of_ble_eq_true rfl) huc312 hvc312 oc312 c312 ?_
      refine z_icmp_eq (t := 1705) dL_law_1654 (by decide) (fun q => ?_) (fun q => ?_)
      · have H314 := H313.1 q
        refine z_iinc (y := x3 + 6) (lv' := [(3, .int (x3 + 6)), (0, .retAddr 1000), (1, .ref a1), (2, .ref a2)]) 3 dL_law_1705 rfl rfl (by decide) rfl (z_goto (t := 18) dL_law_1708 (by decide) ?_)
        exact z_less [1, 2, 3, 0] rfl H314
      · have H315 := H313.2 q
        refine z_iconst (w := 0) dL_law_1657 (by decide) ?_
        obtain ⟨hu, hv, rfl, rfl⟩ := H315
        exact z_zret dL_law_1658 rfl (Or.inl rfl) hu hv
    by_cases q316 : ((xs x3.toNatClampNeg) &&& 63) = 32
    · have H317 := H2.2.2.2.2.2.2.2.2.2.2.2.2.2.2.2.2.2.2.2.2.2.2.2.2.2.2.2.2.2.2.2.2.2.1 q316
      have eq316 : (((xs x3.toNatClampNeg) &&& 63) : Int32).toInt = 32 := by rw [q316]; decide
      refine z_tableIn (off := 1626) (t := 1659) dL_law_33 (by rw [eq316]; decide) (by rw [eq316]; decide) (by rw [eq316]; rfl) (by decide) ?_
      refine z_aload_n 1 dL_law_1659 rfl rfl (z_aload_n 0 dL_law_1660 rfl rfl (z_iload_n 3 dL_law_1661 rfl (z_iconst (w := 1) dL_law_1662 (by decide) (z_iadd dL_law_1663 (z_sld rfl dL_law_1664 H317.1 ?_)))))
      obtain ⟨huc320, hvc320, oc320, w318, h319, c320, H321⟩ := H317.2
      refine z_virt (As := [.int (xs (x3 + 1).toNatClampNeg)]) (st := []) (r1 := (some (.int w318))) (h1 := h319) dL_law_1665 kX11_image wm_L_151 ⟨by decide, by decide⟩ rfl rfl (Nat.le_of_ble_eq_true rfl) huc320 hvc320 oc320 c320 ?_
      refine z_aload_n 2 dL_law_1668 rfl rfl (z_aload_n 0 dL_law_1669 rfl rfl (z_iload_n 3 dL_law_1670 rfl (z_iconst (w := 1) dL_law_1671 (by decide) (z_iadd dL_law_1672 (z_sld rfl dL_law_1673 H321.1 ?_)))))
      obtain ⟨huc324, hvc324, oc324, w322, I323, c324, H325⟩ := H321.2
      refine z_virt (As := [.int (xs (x3 + 1).toNatClampNeg)]) (st := [.int w318]) (r1 := (some (.int w322))) (h1 := (h319.1, I323, h319.2.2)) dL_law_1674 kX12_image wm_L_155 ⟨by decide, by decide⟩ rfl rfl (Nat.le_of_ble_eq_true rfl) huc324 hvc324 oc324 c324 ?_
      refine z_icmp_eq (t := 1705) dL_law_1677 (by decide) (fun q => ?_) (fun q => ?_)
      · have H326 := H325.1 q
        refine z_iinc (y := x3 + 6) (lv' := [(3, .int (x3 + 6)), (0, .retAddr 1000), (1, .ref a1), (2, .ref a2)]) 3 dL_law_1705 rfl rfl (by decide) rfl (z_goto (t := 18) dL_law_1708 (by decide) ?_)
        exact z_less [1, 2, 3, 0] rfl H326
      · have H327 := H325.2 q
        refine z_iconst (w := 0) dL_law_1680 (by decide) ?_
        obtain ⟨hu, hv, rfl, rfl⟩ := H327
        exact z_zret dL_law_1681 rfl (Or.inl rfl) hu hv
    by_cases q328 : ((xs x3.toNatClampNeg) &&& 63) = 33
    · have H329 := H2.2.2.2.2.2.2.2.2.2.2.2.2.2.2.2.2.2.2.2.2.2.2.2.2.2.2.2.2.2.2.2.2.2.2.1 q328
      have eq328 : (((xs x3.toNatClampNeg) &&& 63) : Int32).toInt = 33 := by rw [q328]; decide
      refine z_tableIn (off := 1649) (t := 1682) dL_law_33 (by rw [eq328]; decide) (by rw [eq328]; decide) (by rw [eq328]; rfl) (by decide) ?_
      refine z_aload_n 1 dL_law_1682 rfl rfl (z_aload_n 0 dL_law_1683 rfl rfl (z_iload_n 3 dL_law_1684 rfl (z_iconst (w := 1) dL_law_1685 (by decide) (z_iadd dL_law_1686 (z_sld rfl dL_law_1687 H329.1 ?_)))))
      obtain ⟨huc332, hvc332, oc332, w330, I331, c332, H333⟩ := H329.2
      refine z_virt (As := [.int (xs (x3 + 1).toNatClampNeg)]) (st := []) (r1 := (some (.int w330))) (h1 := (g, I331, P)) dL_law_1688 kX11_again wm_L_156 ⟨by decide, by decide⟩ rfl rfl (Nat.le_of_ble_eq_true rfl) huc332 hvc332 oc332 c332 ?_
      refine z_aload_n 2 dL_law_1691 rfl rfl (z_aload_n 0 dL_law_1692 rfl rfl (z_iload_n 3 dL_law_1693 rfl (z_iconst (w := 1) dL_law_1694 (by decide) (z_iadd dL_law_1695 (z_sld rfl dL_law_1696 H333.1 ?_)))))
      obtain ⟨huc336, hvc336, oc336, w334, I335, c336, H337⟩ := H333.2
      refine z_virt (As := [.int (xs (x3 + 1).toNatClampNeg)]) (st := [.int w330]) (r1 := (some (.int w334))) (h1 := (g, I335, P)) dL_law_1697 kX12_again wm_L_159 ⟨by decide, by decide⟩ rfl rfl (Nat.le_of_ble_eq_true rfl) huc336 hvc336 oc336 c336 ?_
      refine z_icmp_eq (t := 1705) dL_law_1700 (by decide) (fun q => ?_) (fun q => ?_)
      · have H338 := H337.1 q
        refine z_iinc (y := x3 + 6) (lv' := [(3, .int (x3 + 6)), (0, .retAddr 1000), (1, .ref a1), (2, .ref a2)]) 3 dL_law_1705 rfl rfl (by decide) rfl (z_goto (t := 18) dL_law_1708 (by decide) ?_)
        exact z_less [1, 2, 3, 0] rfl H338
      · have H339 := H337.2 q
        refine z_iconst (w := 0) dL_law_1703 (by decide) ?_
        obtain ⟨hu, hv, rfl, rfl⟩ := H339
        exact z_zret dL_law_1704 rfl (Or.inl rfl) hu hv
    have H340 := H2.2.2.2.2.2.2.2.2.2.2.2.2.2.2.2.2.2.2.2.2.2.2.2.2.2.2.2.2.2.2.2.2.2.2.2 q3 q15 q27 q40 q50 q61 q72 q85 q98 q109 q122 q126 q130 q143 q156 q160 q171 q183 q195 q199 q210 q223 q227 q240 q253 q257 q261 q273 q285 q298 q302 q306 q316 q328
    have nq3 := lv_neT q3 (show (0 : Int32).toInt = 0 by decide)
    have nq15 := lv_neT q15 (show (1 : Int32).toInt = 1 by decide)
    have nq27 := lv_neT q27 (show (2 : Int32).toInt = 2 by decide)
    have nq40 := lv_neT q40 (show (3 : Int32).toInt = 3 by decide)
    have nq50 := lv_neT q50 (show (4 : Int32).toInt = 4 by decide)
    have nq61 := lv_neT q61 (show (5 : Int32).toInt = 5 by decide)
    have nq72 := lv_neT q72 (show (6 : Int32).toInt = 6 by decide)
    have nq85 := lv_neT q85 (show (7 : Int32).toInt = 7 by decide)
    have nq98 := lv_neT q98 (show (8 : Int32).toInt = 8 by decide)
    have nq109 := lv_neT q109 (show (9 : Int32).toInt = 9 by decide)
    have nq122 := lv_neT q122 (show (10 : Int32).toInt = 10 by decide)
    have nq126 := lv_neT q126 (show (11 : Int32).toInt = 11 by decide)
    have nq130 := lv_neT q130 (show (12 : Int32).toInt = 12 by decide)
    have nq143 := lv_neT q143 (show (13 : Int32).toInt = 13 by decide)
    have nq156 := lv_neT q156 (show (14 : Int32).toInt = 14 by decide)
    have nq160 := lv_neT q160 (show (15 : Int32).toInt = 15 by decide)
    have nq171 := lv_neT q171 (show (16 : Int32).toInt = 16 by decide)
    have nq183 := lv_neT q183 (show (17 : Int32).toInt = 17 by decide)
    have nq195 := lv_neT q195 (show (18 : Int32).toInt = 18 by decide)
    have nq199 := lv_neT q199 (show (19 : Int32).toInt = 19 by decide)
    have nq210 := lv_neT q210 (show (20 : Int32).toInt = 20 by decide)
    have nq223 := lv_neT q223 (show (21 : Int32).toInt = 21 by decide)
    have nq227 := lv_neT q227 (show (22 : Int32).toInt = 22 by decide)
    have nq240 := lv_neT q240 (show (23 : Int32).toInt = 23 by decide)
    have nq253 := lv_neT q253 (show (24 : Int32).toInt = 24 by decide)
    have nq257 := lv_neT q257 (show (25 : Int32).toInt = 25 by decide)
    have nq261 := lv_neT q261 (show (26 : Int32).toInt = 26 by decide)
    have nq273 := lv_neT q273 (show (27 : Int32).toInt = 27 by decide)
    have nq285 := lv_neT q285 (show (28 : Int32).toInt = 28 by decide)
    have nq298 := lv_neT q298 (show (29 : Int32).toInt = 29 by decide)
    have nq302 := lv_neT q302 (show (30 : Int32).toInt = 30 by decide)
    have nq306 := lv_neT q306 (show (31 : Int32).toInt = 31 by decide)
    have nq316 := lv_neT q316 (show (32 : Int32).toInt = 32 by decide)
    have nq328 := lv_neT q328 (show (33 : Int32).toInt = 33 by decide)
    refine z_tableOut (t := 1705) dL_law_33 (by omega) (by decide) ?_
    refine z_iinc (y := x3 + 6) (lv' := [(3, .int (x3 + 6)), (0, .retAddr 1000), (1, .ref a1), (2, .ref a2)]) 3 dL_law_1705 rfl rfl (by decide) rfl (z_goto (t := 18) dL_law_1708 (by decide) ?_)
    exact z_less [1, 2, 3, 0] rfl H340
set_option maxRecDepth 10000 in
theorem wL_law_618 {g : zG} {I : Nat → Nat → Int32} {P : Nat → Nat → Option Nat} {r : Option Value} {h' : zH} {a1 : Nat} {a2 : Nat} {x3 : Int32} {as0 : Nat} {xs1 : Int32} {xs2 : Int32} {xs3 : Int32} {xs4 : Int32} {xs5 : Int32} {u : Nat} {v : Nat} {Ls : Nat} {xs : Nat → Int32} (H : u ≤ 600000 ∧ v ≤ 7302250 ∧ zk g as0 11 ∧ ∃ (w1 : Int64) (I2 : Nat → Nat → Int32) (P3 : Nat → Nat → Option Nat), Cl mX11_odds [.ref as0, .int xs1, .int xs2, .int xs3, .int xs4, .int xs5] (g, I, P) (some (.long w1)) (g, I2, P3) ∧ vp_in (x3 + 1) Ls ∧ vp_in (x3 + 2) Ls ∧ vp_in (x3 + 3) Ls ∧ vp_in (x3 + 4) Ls ∧ vp_in (x3 + 5) Ls ∧ ((xs (x3 + 5).toNatClampNeg = 0) → u ≤ 600000 ∧ v ≤ 7302250 ∧ zk g a2 12 ∧ ∃ (w7 : Int64) (I8 : Nat → Nat → Int32), Cl mX12_odds [.ref a2, .int (xs (x3 + 1).toNatClampNeg), .int (xs (x3 + 2).toNatClampNeg), .int (xs (x3 + 3).toNatClampNeg), .int (xs (x3 + 4).toNatClampNeg), .int 0] (g, I2, P3) (some (.long w7)) (g, I8, P3) ∧ ((lg_cmp w1 w7 = 0) → Zt (some (Ls, xs)) mL_law u v 18 [(0, .retAddr 1000), (1, .ref a1), (2, .ref a2), (3, .int (x3 + 6))] [] (g, I8, P3) r h') ∧ ((¬ lg_cmp w1 w7 = 0) → u ≤ 600000 ∧ v ≤ 7302250 ∧ r = some (.int 0) ∧ h' = (g, I8, P3))) ∧ ((¬ xs (x3 + 5).toNatClampNeg = 0) → u ≤ 600000 ∧ v ≤ 7302250 ∧ zk g a2 12 ∧ ∃ (w14 : Int64) (I15 : Nat → Nat → Int32), Cl mX12_odds [.ref a2, .int (xs (x3 + 1).toNatClampNeg), .int (xs (x3 + 2).toNatClampNeg), .int (xs (x3 + 3).toNatClampNeg), .int (xs (x3 + 4).toNatClampNeg), .int 1] (g, I2, P3) (some (.long w14)) (g, I15, P3) ∧ ((lg_cmp w1 w14 = 0) → Zt (some (Ls, xs)) mL_law u v 18 [(0, .retAddr 1000), (1, .ref a1), (2, .ref a2), (3, .int (x3 + 6))] [] (g, I15, P3) r h') ∧ ((¬ lg_cmp w1 w14 = 0) → u ≤ 600000 ∧ v ≤ 7302250 ∧ r = some (.int 0) ∧ h' = (g, I15, P3)))) : Zt (some (Ls, xs)) mL_law u v 618 [(0, .retAddr 1000), (1, .ref a1), (2, .ref a2), (3, .int x3)] [.int xs5, .int xs4, .int xs3, .int xs2, .int xs1, .ref as0] (g, I, P) r h' := by
  obtain ⟨huc4, hvc4, oc4, w1, I2, P3, c4, H5⟩ := H
  refine z_virt (As := [.int xs1, .int xs2, .int xs3, .int xs4, .int xs5]) (st := []) (r1 := (some (.long w1))) (h1 := (g, I2, P3)) dL_law_618 kX11_odds wm_L_58 ⟨by decide, by decide⟩ rfl rfl (Nat.le_of_ble_eq_true rfl) huc4 hvc4 oc4 c4 ?_
  refine z_aload_n 2 dL_law_621 rfl rfl (z_aload_n 0 dL_law_622 rfl rfl (z_iload_n 3 dL_law_623 rfl (z_iconst (w := 1) dL_law_624 (by decide) (z_iadd dL_law_625 (z_sld rfl dL_law_626 H5.1 (z_aload_n 0 dL_law_627 rfl rfl (z_iload_n 3 dL_law_628 rfl (z_iconst (w := 2) dL_law_629 (by decide) (z_iadd dL_law_630 (z_sld rfl dL_law_631 H5.2.1 (z_aload_n 0 dL_law_632 rfl rfl (z_iload_n 3 dL_law_633 rfl (z_iconst (w := 3) dL_law_634 (by decide) (z_iadd dL_law_635 (z_sld rfl dL_law_636 H5.2.2.1 (z_aload_n 0 dL_law_637 rfl rfl (z_iload_n 3 dL_law_638 rfl (z_iconst (w := 4) dL_law_639 (by decide) (z_iadd dL_law_640 (z_sld rfl dL_law_641 H5.2.2.2.1 (z_aload_n 0 dL_law_642 rfl rfl (z_iload_n 3 dL_law_643 rfl (z_iconst (w := 5) dL_law_644 (by decide) (z_iadd dL_law_645 (z_sld rfl dL_law_646 H5.2.2.2.2.1 ?_)))))))))))))))))))))))))
  refine z_if_eq (t := 654) dL_law_647 (by decide) (fun q => ?_) (fun q => ?_)
  · have H6 := H5.2.2.2.2.2.1 q
    refine z_iconst (w := 0) dL_law_654 (by decide) ?_
    obtain ⟨huc9, hvc9, oc9, w7, I8, c9, H10⟩ := H6
    refine z_virt (As := [.int (xs (x3 + 1).toNatClampNeg), .int (xs (x3 + 2).toNatClampNeg), .int (xs (x3 + 3).toNatClampNeg), .int (xs (x3 + 4).toNatClampNeg), .int 0]) (st := [.long w1]) (r1 := (some (.long w7))) (h1 := (g, I8, P3)) dL_law_655 kX12_odds wm_L_62 ⟨by decide, by decide⟩ rfl rfl (Nat.le_of_ble_eq_true rfl) huc9 hvc9 oc9 c9 ?_
    refine z_lcmp dL_law_658 ?_
    refine z_if_eq (t := 1705) dL_law_659 (by decide) (fun q => ?_) (fun q => ?_)
    · have H11 := H10.1 q
      refine z_iinc (y := x3 + 6) (lv' := [(3, .int (x3 + 6)), (0, .retAddr 1000), (1, .ref a1), (2, .ref a2)]) 3 dL_law_1705 rfl rfl (by decide) rfl (z_goto (t := 18) dL_law_1708 (by decide) ?_)
      exact z_less [1, 2, 3, 0] rfl H11
    · have H12 := H10.2 q
      refine z_iconst (w := 0) dL_law_662 (by decide) ?_
      obtain ⟨hu, hv, rfl, rfl⟩ := H12
      exact z_zret dL_law_663 rfl (Or.inl rfl) hu hv
  · have H13 := H5.2.2.2.2.2.2 q
    refine z_iconst (w := 1) dL_law_650 (by decide) (z_goto (t := 655) dL_law_651 (by decide) ?_)
    obtain ⟨huc16, hvc16, oc16, w14, I15, c16, H17⟩ := H13
    refine z_virt (As := [.int (xs (x3 + 1).toNatClampNeg), .int (xs (x3 + 2).toNatClampNeg), .int (xs (x3 + 3).toNatClampNeg), .int (xs (x3 + 4).toNatClampNeg), .int 1]) (st := [.long w1]) (r1 := (some (.long w14))) (h1 := (g, I15, P3)) dL_law_655 kX12_odds wm_L_62 ⟨by decide, by decide⟩ rfl rfl (Nat.le_of_ble_eq_true rfl) huc16 hvc16 oc16 c16 ?_
    refine z_lcmp dL_law_658 ?_
    refine z_if_eq (t := 1705) dL_law_659 (by decide) (fun q => ?_) (fun q => ?_)
    · have H18 := H17.1 q
      refine z_iinc (y := x3 + 6) (lv' := [(3, .int (x3 + 6)), (0, .retAddr 1000), (1, .ref a1), (2, .ref a2)]) 3 dL_law_1705 rfl rfl (by decide) rfl (z_goto (t := 18) dL_law_1708 (by decide) ?_)
      exact z_less [1, 2, 3, 0] rfl H18
    · have H19 := H17.2 q
      refine z_iconst (w := 0) dL_law_662 (by decide) ?_
      obtain ⟨hu, hv, rfl, rfl⟩ := H19
      exact z_zret dL_law_663 rfl (Or.inl rfl) hu hv
set_option maxRecDepth 10000 in
theorem wL_law_693 {g : zG} {I : Nat → Nat → Int32} {P : Nat → Nat → Option Nat} {r : Option Value} {h' : zH} {a1 : Nat} {a2 : Nat} {x3 : Int32} {as0 : Nat} {xs1 : Int32} {xs2 : Int32} {xs3 : Int32} {xs4 : Int32} {u : Nat} {v : Nat} {Ls : Nat} {xs : Nat → Int32} (H : u ≤ 600000 ∧ v ≤ 7302250 ∧ zk g as0 11 ∧ ∃ (w1 : Int64) (I2 : Nat → Nat → Int32) (P3 : Nat → Nat → Option Nat), Cl mX11_sure [.ref as0, .int xs1, .int xs2, .int xs3, .int xs4] (g, I, P) (some (.long w1)) (g, I2, P3) ∧ vp_in (x3 + 1) Ls ∧ vp_in (x3 + 2) Ls ∧ vp_in (x3 + 3) Ls ∧ vp_in (x3 + 4) Ls ∧ ((xs (x3 + 4).toNatClampNeg = 0) → u ≤ 600000 ∧ v ≤ 7302250 ∧ zk g a2 12 ∧ ∃ (w7 : Int64) (I8 : Nat → Nat → Int32), Cl mX12_sure [.ref a2, .int (xs (x3 + 1).toNatClampNeg), .int (xs (x3 + 2).toNatClampNeg), .int (xs (x3 + 3).toNatClampNeg), .int 0] (g, I2, P3) (some (.long w7)) (g, I8, P3) ∧ ((lg_cmp w1 w7 = 0) → Zt (some (Ls, xs)) mL_law u v 18 [(0, .retAddr 1000), (1, .ref a1), (2, .ref a2), (3, .int (x3 + 6))] [] (g, I8, P3) r h') ∧ ((¬ lg_cmp w1 w7 = 0) → u ≤ 600000 ∧ v ≤ 7302250 ∧ r = some (.int 0) ∧ h' = (g, I8, P3))) ∧ ((¬ xs (x3 + 4).toNatClampNeg = 0) → u ≤ 600000 ∧ v ≤ 7302250 ∧ zk g a2 12 ∧ ∃ (w14 : Int64) (I15 : Nat → Nat → Int32), Cl mX12_sure [.ref a2, .int (xs (x3 + 1).toNatClampNeg), .int (xs (x3 + 2).toNatClampNeg), .int (xs (x3 + 3).toNatClampNeg), .int 1] (g, I2, P3) (some (.long w14)) (g, I15, P3) ∧ ((lg_cmp w1 w14 = 0) → Zt (some (Ls, xs)) mL_law u v 18 [(0, .retAddr 1000), (1, .ref a1), (2, .ref a2), (3, .int (x3 + 6))] [] (g, I15, P3) r h') ∧ ((¬ lg_cmp w1 w14 = 0) → u ≤ 600000 ∧ v ≤ 7302250 ∧ r = some (.int 0) ∧ h' = (g, I15, P3)))) : Zt (some (Ls, xs)) mL_law u v 693 [(0, .retAddr 1000), (1, .ref a1), (2, .ref a2), (3, .int x3)] [.int xs4, .int xs3, .int xs2, .int xs1, .ref as0] (g, I, P) r h' := by
  obtain ⟨huc4, hvc4, oc4, w1, I2, P3, c4, H5⟩ := H
  refine z_virt (As := [.int xs1, .int xs2, .int xs3, .int xs4]) (st := []) (r1 := (some (.long w1))) (h1 := (g, I2, P3)) dL_law_693 kX11_sure wm_L_63 ⟨by decide, by decide⟩ rfl rfl (Nat.le_of_ble_eq_true rfl) huc4 hvc4 oc4 c4 ?_
  refine z_aload_n 2 dL_law_696 rfl rfl (z_aload_n 0 dL_law_697 rfl rfl (z_iload_n 3 dL_law_698 rfl (z_iconst (w := 1) dL_law_699 (by decide) (z_iadd dL_law_700 (z_sld rfl dL_law_701 H5.1 (z_aload_n 0 dL_law_702 rfl rfl (z_iload_n 3 dL_law_703 rfl (z_iconst (w := 2) dL_law_704 (by decide) (z_iadd dL_law_705 (z_sld rfl dL_law_706 H5.2.1 (z_aload_n 0 dL_law_707 rfl rfl (z_iload_n 3 dL_law_708 rfl (z_iconst (w := 3) dL_law_709 (by decide) (z_iadd dL_law_710 (z_sld rfl dL_law_711 H5.2.2.1 (z_aload_n 0 dL_law_712 rfl rfl (z_iload_n 3 dL_law_713 rfl (z_iconst (w := 4) dL_law_714 (by decide) (z_iadd dL_law_715 (z_sld rfl dL_law_716 H5.2.2.2.1 ?_))))))))))))))))))))
  refine z_if_eq (t := 724) dL_law_717 (by decide) (fun q => ?_) (fun q => ?_)
  · have H6 := H5.2.2.2.2.1 q
    refine z_iconst (w := 0) dL_law_724 (by decide) ?_
    obtain ⟨huc9, hvc9, oc9, w7, I8, c9, H10⟩ := H6
    refine z_virt (As := [.int (xs (x3 + 1).toNatClampNeg), .int (xs (x3 + 2).toNatClampNeg), .int (xs (x3 + 3).toNatClampNeg), .int 0]) (st := [.long w1]) (r1 := (some (.long w7))) (h1 := (g, I8, P3)) dL_law_725 kX12_sure wm_L_67 ⟨by decide, by decide⟩ rfl rfl (Nat.le_of_ble_eq_true rfl) huc9 hvc9 oc9 c9 ?_
    refine z_lcmp dL_law_728 ?_
    refine z_if_eq (t := 1705) dL_law_729 (by decide) (fun q => ?_) (fun q => ?_)
    · have H11 := H10.1 q
      refine z_iinc (y := x3 + 6) (lv' := [(3, .int (x3 + 6)), (0, .retAddr 1000), (1, .ref a1), (2, .ref a2)]) 3 dL_law_1705 rfl rfl (by decide) rfl (z_goto (t := 18) dL_law_1708 (by decide) ?_)
      exact z_less [1, 2, 3, 0] rfl H11
    · have H12 := H10.2 q
      refine z_iconst (w := 0) dL_law_732 (by decide) ?_
      obtain ⟨hu, hv, rfl, rfl⟩ := H12
      exact z_zret dL_law_733 rfl (Or.inl rfl) hu hv
  · have H13 := H5.2.2.2.2.2 q
    refine z_iconst (w := 1) dL_law_720 (by decide) (z_goto (t := 725) dL_law_721 (by decide) ?_)
    obtain ⟨huc16, hvc16, oc16, w14, I15, c16, H17⟩ := H13
    refine z_virt (As := [.int (xs (x3 + 1).toNatClampNeg), .int (xs (x3 + 2).toNatClampNeg), .int (xs (x3 + 3).toNatClampNeg), .int 1]) (st := [.long w1]) (r1 := (some (.long w14))) (h1 := (g, I15, P3)) dL_law_725 kX12_sure wm_L_67 ⟨by decide, by decide⟩ rfl rfl (Nat.le_of_ble_eq_true rfl) huc16 hvc16 oc16 c16 ?_
    refine z_lcmp dL_law_728 ?_
    refine z_if_eq (t := 1705) dL_law_729 (by decide) (fun q => ?_) (fun q => ?_)
    · have H18 := H17.1 q
      refine z_iinc (y := x3 + 6) (lv' := [(3, .int (x3 + 6)), (0, .retAddr 1000), (1, .ref a1), (2, .ref a2)]) 3 dL_law_1705 rfl rfl (by decide) rfl (z_goto (t := 18) dL_law_1708 (by decide) ?_)
      exact z_less [1, 2, 3, 0] rfl H18
    · have H19 := H17.2 q
      refine z_iconst (w := 0) dL_law_732 (by decide) ?_
      obtain ⟨hu, hv, rfl, rfl⟩ := H19
      exact z_zret dL_law_733 rfl (Or.inl rfl) hu hv
set_option maxRecDepth 10000 in
theorem wL_law_864 {g : zG} {I : Nat → Nat → Int32} {P : Nat → Nat → Option Nat} {r : Option Value} {h' : zH} {a1 : Nat} {a2 : Nat} {x3 : Int32} {as0 : Nat} {xs1 : Int32} {xs2 : Int32} {xs3 : Int32} {u : Nat} {v : Nat} {Ls : Nat} {xs : Nat → Int32} (H : u ≤ 600000 ∧ v ≤ 7302250 ∧ zk g as0 11 ∧ ∃ (w1 : Int64), Cl mX11_asked [.ref as0, .int xs1, .int xs2, .int xs3] (g, I, P) (some (.long w1)) (g, I, P) ∧ vp_in (x3 + 1) Ls ∧ vp_in (x3 + 2) Ls ∧ vp_in (x3 + 3) Ls ∧ ((xs (x3 + 3).toNatClampNeg = 0) → u ≤ 600000 ∧ v ≤ 7302250 ∧ zk g a2 12 ∧ ∃ (w5 : Int64) (I6 : Nat → Nat → Int32), Cl mX12_asked [.ref a2, .int (xs (x3 + 1).toNatClampNeg), .int (xs (x3 + 2).toNatClampNeg), .int 0] (g, I, P) (some (.long w5)) (g, I6, P) ∧ ((lg_cmp w1 w5 = 0) → Zt (some (Ls, xs)) mL_law u v 18 [(0, .retAddr 1000), (1, .ref a1), (2, .ref a2), (3, .int (x3 + 6))] [] (g, I6, P) r h') ∧ ((¬ lg_cmp w1 w5 = 0) → u ≤ 600000 ∧ v ≤ 7302250 ∧ r = some (.int 0) ∧ h' = (g, I6, P))) ∧ ((¬ xs (x3 + 3).toNatClampNeg = 0) → u ≤ 600000 ∧ v ≤ 7302250 ∧ zk g a2 12 ∧ ∃ (w12 : Int64) (I13 : Nat → Nat → Int32), Cl mX12_asked [.ref a2, .int (xs (x3 + 1).toNatClampNeg), .int (xs (x3 + 2).toNatClampNeg), .int 1] (g, I, P) (some (.long w12)) (g, I13, P) ∧ ((lg_cmp w1 w12 = 0) → Zt (some (Ls, xs)) mL_law u v 18 [(0, .retAddr 1000), (1, .ref a1), (2, .ref a2), (3, .int (x3 + 6))] [] (g, I13, P) r h') ∧ ((¬ lg_cmp w1 w12 = 0) → u ≤ 600000 ∧ v ≤ 7302250 ∧ r = some (.int 0) ∧ h' = (g, I13, P)))) : Zt (some (Ls, xs)) mL_law u v 864 [(0, .retAddr 1000), (1, .ref a1), (2, .ref a2), (3, .int x3)] [.int xs3, .int xs2, .int xs1, .ref as0] (g, I, P) r h' := by
  obtain ⟨huc2, hvc2, oc2, w1, c2, H3⟩ := H
  refine z_virt (As := [.int xs1, .int xs2, .int xs3]) (st := []) (r1 := (some (.long w1))) (h1 := (g, I, P)) dL_law_864 kX11_asked wm_L_76 ⟨by decide, by decide⟩ rfl rfl (Nat.le_of_ble_eq_true rfl) huc2 hvc2 oc2 c2 ?_
  refine z_aload_n 2 dL_law_867 rfl rfl (z_aload_n 0 dL_law_868 rfl rfl (z_iload_n 3 dL_law_869 rfl (z_iconst (w := 1) dL_law_870 (by decide) (z_iadd dL_law_871 (z_sld rfl dL_law_872 H3.1 (z_aload_n 0 dL_law_873 rfl rfl (z_iload_n 3 dL_law_874 rfl (z_iconst (w := 2) dL_law_875 (by decide) (z_iadd dL_law_876 (z_sld rfl dL_law_877 H3.2.1 (z_aload_n 0 dL_law_878 rfl rfl (z_iload_n 3 dL_law_879 rfl (z_iconst (w := 3) dL_law_880 (by decide) (z_iadd dL_law_881 (z_sld rfl dL_law_882 H3.2.2.1 ?_)))))))))))))))
  refine z_if_eq (t := 890) dL_law_883 (by decide) (fun q => ?_) (fun q => ?_)
  · have H4 := H3.2.2.2.1 q
    refine z_iconst (w := 0) dL_law_890 (by decide) ?_
    obtain ⟨huc7, hvc7, oc7, w5, I6, c7, H8⟩ := H4
    refine z_virt (As := [.int (xs (x3 + 1).toNatClampNeg), .int (xs (x3 + 2).toNatClampNeg), .int 0]) (st := [.long w1]) (r1 := (some (.long w5))) (h1 := (g, I6, P)) dL_law_891 kX12_asked wm_L_80 ⟨by decide, by decide⟩ rfl rfl (Nat.le_of_ble_eq_true rfl) huc7 hvc7 oc7 c7 ?_
    refine z_lcmp dL_law_894 ?_
    refine z_if_eq (t := 1705) dL_law_895 (by decide) (fun q => ?_) (fun q => ?_)
    · have H9 := H8.1 q
      refine z_iinc (y := x3 + 6) (lv' := [(3, .int (x3 + 6)), (0, .retAddr 1000), (1, .ref a1), (2, .ref a2)]) 3 dL_law_1705 rfl rfl (by decide) rfl (z_goto (t := 18) dL_law_1708 (by decide) ?_)
      exact z_less [1, 2, 3, 0] rfl H9
    · have H10 := H8.2 q
      refine z_iconst (w := 0) dL_law_898 (by decide) ?_
      obtain ⟨hu, hv, rfl, rfl⟩ := H10
      exact z_zret dL_law_899 rfl (Or.inl rfl) hu hv
  · have H11 := H3.2.2.2.2 q
    refine z_iconst (w := 1) dL_law_886 (by decide) (z_goto (t := 891) dL_law_887 (by decide) ?_)
    obtain ⟨huc14, hvc14, oc14, w12, I13, c14, H15⟩ := H11
    refine z_virt (As := [.int (xs (x3 + 1).toNatClampNeg), .int (xs (x3 + 2).toNatClampNeg), .int 1]) (st := [.long w1]) (r1 := (some (.long w12))) (h1 := (g, I13, P)) dL_law_891 kX12_asked wm_L_80 ⟨by decide, by decide⟩ rfl rfl (Nat.le_of_ble_eq_true rfl) huc14 hvc14 oc14 c14 ?_
    refine z_lcmp dL_law_894 ?_
    refine z_if_eq (t := 1705) dL_law_895 (by decide) (fun q => ?_) (fun q => ?_)
    · have H16 := H15.1 q
      refine z_iinc (y := x3 + 6) (lv' := [(3, .int (x3 + 6)), (0, .retAddr 1000), (1, .ref a1), (2, .ref a2)]) 3 dL_law_1705 rfl rfl (by decide) rfl (z_goto (t := 18) dL_law_1708 (by decide) ?_)
      exact z_less [1, 2, 3, 0] rfl H16
    · have H17 := H15.2 q
      refine z_iconst (w := 0) dL_law_898 (by decide) ?_
      obtain ⟨hu, hv, rfl, rfl⟩ := H17
      exact z_zret dL_law_899 rfl (Or.inl rfl) hu hv
set_option maxRecDepth 10000 in
theorem wL_law_998 {g : zG} {I : Nat → Nat → Int32} {P : Nat → Nat → Option Nat} {r : Option Value} {h' : zH} {a1 : Nat} {a2 : Nat} {x3 : Int32} {as0 : Nat} {xs1 : Int32} {xs2 : Int32} {u : Nat} {v : Nat} {Ls : Nat} {xs : Nat → Int32} (H : u ≤ 600000 ∧ v ≤ 7302250 ∧ zk g as0 11 ∧ ∃ (w1 : Int32), Cl mX11_ghost [.ref as0, .int xs1, .int xs2] (g, I, P) (some (.int w1)) (g, I, P) ∧ vp_in (x3 + 1) Ls ∧ vp_in (x3 + 2) Ls ∧ ((xs (x3 + 2).toNatClampNeg = 0) → u ≤ 600000 ∧ v ≤ 7302250 ∧ zk g a2 12 ∧ ∃ (w5 : Int32) (I6 : Nat → Nat → Int32), Cl mX12_ghost [.ref a2, .int (xs (x3 + 1).toNatClampNeg), .int 0] (g, I, P) (some (.int w5)) (g, I6, P) ∧ ((w1 = w5) → Zt (some (Ls, xs)) mL_law u v 18 [(0, .retAddr 1000), (1, .ref a1), (2, .ref a2), (3, .int (x3 + 6))] [] (g, I6, P) r h') ∧ ((¬ w1 = w5) → u ≤ 600000 ∧ v ≤ 7302250 ∧ r = some (.int 0) ∧ h' = (g, I6, P))) ∧ ((¬ xs (x3 + 2).toNatClampNeg = 0) → u ≤ 600000 ∧ v ≤ 7302250 ∧ zk g a2 12 ∧ ∃ (w12 : Int32) (I13 : Nat → Nat → Int32), Cl mX12_ghost [.ref a2, .int (xs (x3 + 1).toNatClampNeg), .int 1] (g, I, P) (some (.int w12)) (g, I13, P) ∧ ((w1 = w12) → Zt (some (Ls, xs)) mL_law u v 18 [(0, .retAddr 1000), (1, .ref a1), (2, .ref a2), (3, .int (x3 + 6))] [] (g, I13, P) r h') ∧ ((¬ w1 = w12) → u ≤ 600000 ∧ v ≤ 7302250 ∧ r = some (.int 0) ∧ h' = (g, I13, P)))) : Zt (some (Ls, xs)) mL_law u v 998 [(0, .retAddr 1000), (1, .ref a1), (2, .ref a2), (3, .int x3)] [.int xs2, .int xs1, .ref as0] (g, I, P) r h' := by
  obtain ⟨huc2, hvc2, oc2, w1, c2, H3⟩ := H
  refine z_virt (As := [.int xs1, .int xs2]) (st := []) (r1 := (some (.int w1))) (h1 := (g, I, P)) dL_law_998 kX11_ghost wm_L_93 ⟨by decide, by decide⟩ rfl rfl (Nat.le_of_ble_eq_true rfl) huc2 hvc2 oc2 c2 ?_
  refine z_aload_n 2 dL_law_1001 rfl rfl (z_aload_n 0 dL_law_1002 rfl rfl (z_iload_n 3 dL_law_1003 rfl (z_iconst (w := 1) dL_law_1004 (by decide) (z_iadd dL_law_1005 (z_sld rfl dL_law_1006 H3.1 (z_aload_n 0 dL_law_1007 rfl rfl (z_iload_n 3 dL_law_1008 rfl (z_iconst (w := 2) dL_law_1009 (by decide) (z_iadd dL_law_1010 (z_sld rfl dL_law_1011 H3.2.1 ?_))))))))))
  refine z_if_eq (t := 1019) dL_law_1012 (by decide) (fun q => ?_) (fun q => ?_)
  · have H4 := H3.2.2.1 q
    refine z_iconst (w := 0) dL_law_1019 (by decide) ?_
    obtain ⟨huc7, hvc7, oc7, w5, I6, c7, H8⟩ := H4
    refine z_virt (As := [.int (xs (x3 + 1).toNatClampNeg), .int 0]) (st := [.int w1]) (r1 := (some (.int w5))) (h1 := (g, I6, P)) dL_law_1020 kX12_ghost wm_L_97 ⟨by decide, by decide⟩ rfl rfl (Nat.le_of_ble_eq_true rfl) huc7 hvc7 oc7 c7 ?_
    refine z_icmp_eq (t := 1705) dL_law_1023 (by decide) (fun q => ?_) (fun q => ?_)
    · have H9 := H8.1 q
      refine z_iinc (y := x3 + 6) (lv' := [(3, .int (x3 + 6)), (0, .retAddr 1000), (1, .ref a1), (2, .ref a2)]) 3 dL_law_1705 rfl rfl (by decide) rfl (z_goto (t := 18) dL_law_1708 (by decide) ?_)
      exact z_less [1, 2, 3, 0] rfl H9
    · have H10 := H8.2 q
      refine z_iconst (w := 0) dL_law_1026 (by decide) ?_
      obtain ⟨hu, hv, rfl, rfl⟩ := H10
      exact z_zret dL_law_1027 rfl (Or.inl rfl) hu hv
  · have H11 := H3.2.2.2 q
    refine z_iconst (w := 1) dL_law_1015 (by decide) (z_goto (t := 1020) dL_law_1016 (by decide) ?_)
    obtain ⟨huc14, hvc14, oc14, w12, I13, c14, H15⟩ := H11
    refine z_virt (As := [.int (xs (x3 + 1).toNatClampNeg), .int 1]) (st := [.int w1]) (r1 := (some (.int w12))) (h1 := (g, I13, P)) dL_law_1020 kX12_ghost wm_L_97 ⟨by decide, by decide⟩ rfl rfl (Nat.le_of_ble_eq_true rfl) huc14 hvc14 oc14 c14 ?_
    refine z_icmp_eq (t := 1705) dL_law_1023 (by decide) (fun q => ?_) (fun q => ?_)
    · have H16 := H15.1 q
      refine z_iinc (y := x3 + 6) (lv' := [(3, .int (x3 + 6)), (0, .retAddr 1000), (1, .ref a1), (2, .ref a2)]) 3 dL_law_1705 rfl rfl (by decide) rfl (z_goto (t := 18) dL_law_1708 (by decide) ?_)
      exact z_less [1, 2, 3, 0] rfl H16
    · have H17 := H15.2 q
      refine z_iconst (w := 0) dL_law_1026 (by decide) ?_
      obtain ⟨hu, hv, rfl, rfl⟩ := H17
      exact z_zret dL_law_1027 rfl (Or.inl rfl) hu hv
set_option maxRecDepth 10000 in
theorem wL_law_1133 {g : zG} {I : Nat → Nat → Int32} {P : Nat → Nat → Option Nat} {r : Option Value} {h' : zH} {a1 : Nat} {a2 : Nat} {x3 : Int32} {as0 : Nat} {xs1 : Int32} {xs2 : Int32} {xs3 : Int32} {xs4 : Int32} {u : Nat} {v : Nat} {Ls : Nat} {xs : Nat → Int32} (H : u ≤ 600000 ∧ v ≤ 7302250 ∧ zk g as0 11 ∧ ∃ (w1 : Int64), Cl mX11_chance [.ref as0, .int xs1, .int xs2, .int xs3, .int xs4] (g, I, P) (some (.long w1)) (g, I, P) ∧ vp_in (x3 + 1) Ls ∧ vp_in (x3 + 2) Ls ∧ vp_in (x3 + 3) Ls ∧ vp_in (x3 + 4) Ls ∧ ((xs (x3 + 4).toNatClampNeg = 0) → u ≤ 600000 ∧ v ≤ 7302250 ∧ zk g a2 12 ∧ ∃ (w5 : Int64), Cl mX12_chance [.ref a2, .int (xs (x3 + 1).toNatClampNeg), .int (xs (x3 + 2).toNatClampNeg), .int (xs (x3 + 3).toNatClampNeg), .int 0] (g, I, P) (some (.long w5)) (g, I, P) ∧ ((lg_cmp w1 w5 = 0) → Zt (some (Ls, xs)) mL_law u v 18 [(0, .retAddr 1000), (1, .ref a1), (2, .ref a2), (3, .int (x3 + 6))] [] (g, I, P) r h') ∧ ((¬ lg_cmp w1 w5 = 0) → u ≤ 600000 ∧ v ≤ 7302250 ∧ r = some (.int 0) ∧ h' = (g, I, P))) ∧ ((¬ xs (x3 + 4).toNatClampNeg = 0) → u ≤ 600000 ∧ v ≤ 7302250 ∧ zk g a2 12 ∧ ∃ (w11 : Int64), Cl mX12_chance [.ref a2, .int (xs (x3 + 1).toNatClampNeg), .int (xs (x3 + 2).toNatClampNeg), .int (xs (x3 + 3).toNatClampNeg), .int 1] (g, I, P) (some (.long w11)) (g, I, P) ∧ ((lg_cmp w1 w11 = 0) → Zt (some (Ls, xs)) mL_law u v 18 [(0, .retAddr 1000), (1, .ref a1), (2, .ref a2), (3, .int (x3 + 6))] [] (g, I, P) r h') ∧ ((¬ lg_cmp w1 w11 = 0) → u ≤ 600000 ∧ v ≤ 7302250 ∧ r = some (.int 0) ∧ h' = (g, I, P)))) : Zt (some (Ls, xs)) mL_law u v 1133 [(0, .retAddr 1000), (1, .ref a1), (2, .ref a2), (3, .int x3)] [.int xs4, .int xs3, .int xs2, .int xs1, .ref as0] (g, I, P) r h' := by
  obtain ⟨huc2, hvc2, oc2, w1, c2, H3⟩ := H
  refine z_virt (As := [.int xs1, .int xs2, .int xs3, .int xs4]) (st := []) (r1 := (some (.long w1))) (h1 := (g, I, P)) dL_law_1133 kX11_chance wm_L_106 ⟨by decide, by decide⟩ rfl rfl (Nat.le_of_ble_eq_true rfl) huc2 hvc2 oc2 c2 ?_
  refine z_aload_n 2 dL_law_1136 rfl rfl (z_aload_n 0 dL_law_1137 rfl rfl (z_iload_n 3 dL_law_1138 rfl (z_iconst (w := 1) dL_law_1139 (by decide) (z_iadd dL_law_1140 (z_sld rfl dL_law_1141 H3.1 (z_aload_n 0 dL_law_1142 rfl rfl (z_iload_n 3 dL_law_1143 rfl (z_iconst (w := 2) dL_law_1144 (by decide) (z_iadd dL_law_1145 (z_sld rfl dL_law_1146 H3.2.1 (z_aload_n 0 dL_law_1147 rfl rfl (z_iload_n 3 dL_law_1148 rfl (z_iconst (w := 3) dL_law_1149 (by decide) (z_iadd dL_law_1150 (z_sld rfl dL_law_1151 H3.2.2.1 (z_aload_n 0 dL_law_1152 rfl rfl (z_iload_n 3 dL_law_1153 rfl (z_iconst (w := 4) dL_law_1154 (by decide) (z_iadd dL_law_1155 (z_sld rfl dL_law_1156 H3.2.2.2.1 ?_))))))))))))))))))))
  refine z_if_eq (t := 1164) dL_law_1157 (by decide) (fun q => ?_) (fun q => ?_)
  · have H4 := H3.2.2.2.2.1 q
    refine z_iconst (w := 0) dL_law_1164 (by decide) ?_
    obtain ⟨huc6, hvc6, oc6, w5, c6, H7⟩ := H4
    refine z_virt (As := [.int (xs (x3 + 1).toNatClampNeg), .int (xs (x3 + 2).toNatClampNeg), .int (xs (x3 + 3).toNatClampNeg), .int 0]) (st := [.long w1]) (r1 := (some (.long w5))) (h1 := (g, I, P)) dL_law_1165 kX12_chance wm_L_109 ⟨by decide, by decide⟩ rfl rfl (Nat.le_of_ble_eq_true rfl) huc6 hvc6 oc6 c6 ?_
    refine z_lcmp dL_law_1168 ?_
    refine z_if_eq (t := 1705) dL_law_1169 (by decide) (fun q => ?_) (fun q => ?_)
    · have H8 := H7.1 q
      refine z_iinc (y := x3 + 6) (lv' := [(3, .int (x3 + 6)), (0, .retAddr 1000), (1, .ref a1), (2, .ref a2)]) 3 dL_law_1705 rfl rfl (by decide) rfl (z_goto (t := 18) dL_law_1708 (by decide) ?_)
      exact z_less [1, 2, 3, 0] rfl H8
    · have H9 := H7.2 q
      refine z_iconst (w := 0) dL_law_1172 (by decide) ?_
      obtain ⟨hu, hv, rfl, rfl⟩ := H9
      exact z_zret dL_law_1173 rfl (Or.inl rfl) hu hv
  · have H10 := H3.2.2.2.2.2 q
    refine z_iconst (w := 1) dL_law_1160 (by decide) (z_goto (t := 1165) dL_law_1161 (by decide) ?_)
    obtain ⟨huc12, hvc12, oc12, w11, c12, H13⟩ := H10
    refine z_virt (As := [.int (xs (x3 + 1).toNatClampNeg), .int (xs (x3 + 2).toNatClampNeg), .int (xs (x3 + 3).toNatClampNeg), .int 1]) (st := [.long w1]) (r1 := (some (.long w11))) (h1 := (g, I, P)) dL_law_1165 kX12_chance wm_L_109 ⟨by decide, by decide⟩ rfl rfl (Nat.le_of_ble_eq_true rfl) huc12 hvc12 oc12 c12 ?_
    refine z_lcmp dL_law_1168 ?_
    refine z_if_eq (t := 1705) dL_law_1169 (by decide) (fun q => ?_) (fun q => ?_)
    · have H14 := H13.1 q
      refine z_iinc (y := x3 + 6) (lv' := [(3, .int (x3 + 6)), (0, .retAddr 1000), (1, .ref a1), (2, .ref a2)]) 3 dL_law_1705 rfl rfl (by decide) rfl (z_goto (t := 18) dL_law_1708 (by decide) ?_)
      exact z_less [1, 2, 3, 0] rfl H14
    · have H15 := H13.2 q
      refine z_iconst (w := 0) dL_law_1172 (by decide) ?_
      obtain ⟨hu, hv, rfl, rfl⟩ := H15
      exact z_zret dL_law_1173 rfl (Or.inl rfl) hu hv
set_option maxRecDepth 10000 in
theorem wL_law_1309 {g : zG} {I : Nat → Nat → Int32} {P : Nat → Nat → Option Nat} {r : Option Value} {h' : zH} {a1 : Nat} {a2 : Nat} {x3 : Int32} {as0 : Nat} {xs1 : Int32} {xs2 : Int32} {xs3 : Int32} {xs4 : Int32} {u : Nat} {v : Nat} {Ls : Nat} {xs : Nat → Int32} (H : u ≤ 600000 ∧ v ≤ 7302250 ∧ zk g as0 11 ∧ ∃ (w1 : Int32), Cl mX11_echo [.ref as0, .int xs1, .int xs2, .int xs3, .int xs4] (g, I, P) (some (.int w1)) (g, I, P) ∧ vp_in (x3 + 1) Ls ∧ vp_in (x3 + 2) Ls ∧ vp_in (x3 + 3) Ls ∧ vp_in (x3 + 4) Ls ∧ ((xs (x3 + 4).toNatClampNeg = 0) → u ≤ 600000 ∧ v ≤ 7302250 ∧ zk g a2 12 ∧ ∃ (w5 : Int32) (I6 : Nat → Nat → Int32), Cl mX12_echo [.ref a2, .int (xs (x3 + 1).toNatClampNeg), .int (xs (x3 + 2).toNatClampNeg), .int (xs (x3 + 3).toNatClampNeg), .int 0] (g, I, P) (some (.int w5)) (g, I6, P) ∧ ((w1 = w5) → Zt (some (Ls, xs)) mL_law u v 18 [(0, .retAddr 1000), (1, .ref a1), (2, .ref a2), (3, .int (x3 + 6))] [] (g, I6, P) r h') ∧ ((¬ w1 = w5) → u ≤ 600000 ∧ v ≤ 7302250 ∧ r = some (.int 0) ∧ h' = (g, I6, P))) ∧ ((¬ xs (x3 + 4).toNatClampNeg = 0) → u ≤ 600000 ∧ v ≤ 7302250 ∧ zk g a2 12 ∧ ∃ (w12 : Int32) (I13 : Nat → Nat → Int32), Cl mX12_echo [.ref a2, .int (xs (x3 + 1).toNatClampNeg), .int (xs (x3 + 2).toNatClampNeg), .int (xs (x3 + 3).toNatClampNeg), .int 1] (g, I, P) (some (.int w12)) (g, I13, P) ∧ ((w1 = w12) → Zt (some (Ls, xs)) mL_law u v 18 [(0, .retAddr 1000), (1, .ref a1), (2, .ref a2), (3, .int (x3 + 6))] [] (g, I13, P) r h') ∧ ((¬ w1 = w12) → u ≤ 600000 ∧ v ≤ 7302250 ∧ r = some (.int 0) ∧ h' = (g, I13, P)))) : Zt (some (Ls, xs)) mL_law u v 1309 [(0, .retAddr 1000), (1, .ref a1), (2, .ref a2), (3, .int x3)] [.int xs4, .int xs3, .int xs2, .int xs1, .ref as0] (g, I, P) r h' := by
  obtain ⟨huc2, hvc2, oc2, w1, c2, H3⟩ := H
  refine z_virt (As := [.int xs1, .int xs2, .int xs3, .int xs4]) (st := []) (r1 := (some (.int w1))) (h1 := (g, I, P)) dL_law_1309 kX11_echo wm_L_118 ⟨by decide, by decide⟩ rfl rfl (Nat.le_of_ble_eq_true rfl) huc2 hvc2 oc2 c2 ?_
  refine z_aload_n 2 dL_law_1312 rfl rfl (z_aload_n 0 dL_law_1313 rfl rfl (z_iload_n 3 dL_law_1314 rfl (z_iconst (w := 1) dL_law_1315 (by decide) (z_iadd dL_law_1316 (z_sld rfl dL_law_1317 H3.1 (z_aload_n 0 dL_law_1318 rfl rfl (z_iload_n 3 dL_law_1319 rfl (z_iconst (w := 2) dL_law_1320 (by decide) (z_iadd dL_law_1321 (z_sld rfl dL_law_1322 H3.2.1 (z_aload_n 0 dL_law_1323 rfl rfl (z_iload_n 3 dL_law_1324 rfl (z_iconst (w := 3) dL_law_1325 (by decide) (z_iadd dL_law_1326 (z_sld rfl dL_law_1327 H3.2.2.1 (z_aload_n 0 dL_law_1328 rfl rfl (z_iload_n 3 dL_law_1329 rfl (z_iconst (w := 4) dL_law_1330 (by decide) (z_iadd dL_law_1331 (z_sld rfl dL_law_1332 H3.2.2.2.1 ?_))))))))))))))))))))
  refine z_if_eq (t := 1340) dL_law_1333 (by decide) (fun q => ?_) (fun q => ?_)
  · have H4 := H3.2.2.2.2.1 q
    refine z_iconst (w := 0) dL_law_1340 (by decide) ?_
    obtain ⟨huc7, hvc7, oc7, w5, I6, c7, H8⟩ := H4
    refine z_virt (As := [.int (xs (x3 + 1).toNatClampNeg), .int (xs (x3 + 2).toNatClampNeg), .int (xs (x3 + 3).toNatClampNeg), .int 0]) (st := [.int w1]) (r1 := (some (.int w5))) (h1 := (g, I6, P)) dL_law_1341 kX12_echo wm_L_122 ⟨by decide, by decide⟩ rfl rfl (Nat.le_of_ble_eq_true rfl) huc7 hvc7 oc7 c7 ?_
    refine z_icmp_eq (t := 1705) dL_law_1344 (by decide) (fun q => ?_) (fun q => ?_)
    · have H9 := H8.1 q
      refine z_iinc (y := x3 + 6) (lv' := [(3, .int (x3 + 6)), (0, .retAddr 1000), (1, .ref a1), (2, .ref a2)]) 3 dL_law_1705 rfl rfl (by decide) rfl (z_goto (t := 18) dL_law_1708 (by decide) ?_)
      exact z_less [1, 2, 3, 0] rfl H9
    · have H10 := H8.2 q
      refine z_iconst (w := 0) dL_law_1347 (by decide) ?_
      obtain ⟨hu, hv, rfl, rfl⟩ := H10
      exact z_zret dL_law_1348 rfl (Or.inl rfl) hu hv
  · have H11 := H3.2.2.2.2.2 q
    refine z_iconst (w := 1) dL_law_1336 (by decide) (z_goto (t := 1341) dL_law_1337 (by decide) ?_)
    obtain ⟨huc14, hvc14, oc14, w12, I13, c14, H15⟩ := H11
    refine z_virt (As := [.int (xs (x3 + 1).toNatClampNeg), .int (xs (x3 + 2).toNatClampNeg), .int (xs (x3 + 3).toNatClampNeg), .int 1]) (st := [.int w1]) (r1 := (some (.int w12))) (h1 := (g, I13, P)) dL_law_1341 kX12_echo wm_L_122 ⟨by decide, by decide⟩ rfl rfl (Nat.le_of_ble_eq_true rfl) huc14 hvc14 oc14 c14 ?_
    refine z_icmp_eq (t := 1705) dL_law_1344 (by decide) (fun q => ?_) (fun q => ?_)
    · have H16 := H15.1 q
      refine z_iinc (y := x3 + 6) (lv' := [(3, .int (x3 + 6)), (0, .retAddr 1000), (1, .ref a1), (2, .ref a2)]) 3 dL_law_1705 rfl rfl (by decide) rfl (z_goto (t := 18) dL_law_1708 (by decide) ?_)
      exact z_less [1, 2, 3, 0] rfl H16
    · have H17 := H15.2 q
      refine z_iconst (w := 0) dL_law_1347 (by decide) ?_
      obtain ⟨hu, hv, rfl, rfl⟩ := H17
      exact z_zret dL_law_1348 rfl (Or.inl rfl) hu hv
set_option maxRecDepth 10000 in
theorem wL_law_1378 {g : zG} {I : Nat → Nat → Int32} {P : Nat → Nat → Option Nat} {r : Option Value} {h' : zH} {a1 : Nat} {a2 : Nat} {x3 : Int32} {as0 : Nat} {xs1 : Int32} {xs2 : Int32} {xs3 : Int32} {xs4 : Int32} {u : Nat} {v : Nat} {Ls : Nat} {xs : Nat → Int32} (H : u ≤ 600000 ∧ v ≤ 7302250 ∧ zk g as0 11 ∧ ∃ (w1 : Int32) (I2 : Nat → Nat → Int32), Cl mX11_alike [.ref as0, .int xs1, .int xs2, .int xs3, .int xs4] (g, I, P) (some (.int w1)) (g, I2, P) ∧ vp_in (x3 + 1) Ls ∧ vp_in (x3 + 2) Ls ∧ vp_in (x3 + 3) Ls ∧ vp_in (x3 + 4) Ls ∧ ((xs (x3 + 4).toNatClampNeg = 0) → u ≤ 600000 ∧ v ≤ 7302250 ∧ zk g a2 12 ∧ ∃ (w6 : Int32) (I7 : Nat → Nat → Int32), Cl mX12_alike [.ref a2, .int (xs (x3 + 1).toNatClampNeg), .int (xs (x3 + 2).toNatClampNeg), .int (xs (x3 + 3).toNatClampNeg), .int 0] (g, I2, P) (some (.int w6)) (g, I7, P) ∧ ((w1 = w6) → Zt (some (Ls, xs)) mL_law u v 18 [(0, .retAddr 1000), (1, .ref a1), (2, .ref a2), (3, .int (x3 + 6))] [] (g, I7, P) r h') ∧ ((¬ w1 = w6) → u ≤ 600000 ∧ v ≤ 7302250 ∧ r = some (.int 0) ∧ h' = (g, I7, P))) ∧ ((¬ xs (x3 + 4).toNatClampNeg = 0) → u ≤ 600000 ∧ v ≤ 7302250 ∧ zk g a2 12 ∧ ∃ (w13 : Int32) (I14 : Nat → Nat → Int32), Cl mX12_alike [.ref a2, .int (xs (x3 + 1).toNatClampNeg), .int (xs (x3 + 2).toNatClampNeg), .int (xs (x3 + 3).toNatClampNeg), .int 1] (g, I2, P) (some (.int w13)) (g, I14, P) ∧ ((w1 = w13) → Zt (some (Ls, xs)) mL_law u v 18 [(0, .retAddr 1000), (1, .ref a1), (2, .ref a2), (3, .int (x3 + 6))] [] (g, I14, P) r h') ∧ ((¬ w1 = w13) → u ≤ 600000 ∧ v ≤ 7302250 ∧ r = some (.int 0) ∧ h' = (g, I14, P)))) : Zt (some (Ls, xs)) mL_law u v 1378 [(0, .retAddr 1000), (1, .ref a1), (2, .ref a2), (3, .int x3)] [.int xs4, .int xs3, .int xs2, .int xs1, .ref as0] (g, I, P) r h' := by
  obtain ⟨huc3, hvc3, oc3, w1, I2, c3, H4⟩ := H
  refine z_virt (As := [.int xs1, .int xs2, .int xs3, .int xs4]) (st := []) (r1 := (some (.int w1))) (h1 := (g, I2, P)) dL_law_1378 kX11_alike wm_L_123 ⟨by decide, by decide⟩ rfl rfl (Nat.le_of_ble_eq_true rfl) huc3 hvc3 oc3 c3 ?_
  refine z_aload_n 2 dL_law_1381 rfl rfl (z_aload_n 0 dL_law_1382 rfl rfl (z_iload_n 3 dL_law_1383 rfl (z_iconst (w := 1) dL_law_1384 (by decide) (z_iadd dL_law_1385 (z_sld rfl dL_law_1386 H4.1 (z_aload_n 0 dL_law_1387 rfl rfl (z_iload_n 3 dL_law_1388 rfl (z_iconst (w := 2) dL_law_1389 (by decide) (z_iadd dL_law_1390 (z_sld rfl dL_law_1391 H4.2.1 (z_aload_n 0 dL_law_1392 rfl rfl (z_iload_n 3 dL_law_1393 rfl (z_iconst (w := 3) dL_law_1394 (by decide) (z_iadd dL_law_1395 (z_sld rfl dL_law_1396 H4.2.2.1 (z_aload_n 0 dL_law_1397 rfl rfl (z_iload_n 3 dL_law_1398 rfl (z_iconst (w := 4) dL_law_1399 (by decide) (z_iadd dL_law_1400 (z_sld rfl dL_law_1401 H4.2.2.2.1 ?_))))))))))))))))))))
  refine z_if_eq (t := 1409) dL_law_1402 (by decide) (fun q => ?_) (fun q => ?_)
  · have H5 := H4.2.2.2.2.1 q
    refine z_iconst (w := 0) dL_law_1409 (by decide) ?_
    obtain ⟨huc8, hvc8, oc8, w6, I7, c8, H9⟩ := H5
    refine z_virt (As := [.int (xs (x3 + 1).toNatClampNeg), .int (xs (x3 + 2).toNatClampNeg), .int (xs (x3 + 3).toNatClampNeg), .int 0]) (st := [.int w1]) (r1 := (some (.int w6))) (h1 := (g, I7, P)) dL_law_1410 kX12_alike wm_L_126 ⟨by decide, by decide⟩ rfl rfl (Nat.le_of_ble_eq_true rfl) huc8 hvc8 oc8 c8 ?_
    refine z_icmp_eq (t := 1705) dL_law_1413 (by decide) (fun q => ?_) (fun q => ?_)
    · have H10 := H9.1 q
      refine z_iinc (y := x3 + 6) (lv' := [(3, .int (x3 + 6)), (0, .retAddr 1000), (1, .ref a1), (2, .ref a2)]) 3 dL_law_1705 rfl rfl (by decide) rfl (z_goto (t := 18) dL_law_1708 (by decide) ?_)
      exact z_less [1, 2, 3, 0] rfl H10
    · have H11 := H9.2 q
      refine z_iconst (w := 0) dL_law_1416 (by decide) ?_
      obtain ⟨hu, hv, rfl, rfl⟩ := H11
      exact z_zret dL_law_1417 rfl (Or.inl rfl) hu hv
  · have H12 := H4.2.2.2.2.2 q
    refine z_iconst (w := 1) dL_law_1405 (by decide) (z_goto (t := 1410) dL_law_1406 (by decide) ?_)
    obtain ⟨huc15, hvc15, oc15, w13, I14, c15, H16⟩ := H12
    refine z_virt (As := [.int (xs (x3 + 1).toNatClampNeg), .int (xs (x3 + 2).toNatClampNeg), .int (xs (x3 + 3).toNatClampNeg), .int 1]) (st := [.int w1]) (r1 := (some (.int w13))) (h1 := (g, I14, P)) dL_law_1410 kX12_alike wm_L_126 ⟨by decide, by decide⟩ rfl rfl (Nat.le_of_ble_eq_true rfl) huc15 hvc15 oc15 c15 ?_
    refine z_icmp_eq (t := 1705) dL_law_1413 (by decide) (fun q => ?_) (fun q => ?_)
    · have H17 := H16.1 q
      refine z_iinc (y := x3 + 6) (lv' := [(3, .int (x3 + 6)), (0, .retAddr 1000), (1, .ref a1), (2, .ref a2)]) 3 dL_law_1705 rfl rfl (by decide) rfl (z_goto (t := 18) dL_law_1708 (by decide) ?_)
      exact z_less [1, 2, 3, 0] rfl H17
    · have H18 := H16.2 q
      refine z_iconst (w := 0) dL_law_1416 (by decide) ?_
      obtain ⟨hu, hv, rfl, rfl⟩ := H18
      exact z_zret dL_law_1417 rfl (Or.inl rfl) hu hv
set_option maxRecDepth 10000 in
theorem wL_law_1546 {g : zG} {I : Nat → Nat → Int32} {P : Nat → Nat → Option Nat} {r : Option Value} {h' : zH} {a1 : Nat} {a2 : Nat} {x3 : Int32} {as0 : Nat} {xs1 : Int32} {xs2 : Int32} {u : Nat} {v : Nat} {Ls : Nat} {xs : Nat → Int32} (H : u ≤ 600000 ∧ v ≤ 7302250 ∧ zk g as0 11 ∧ ∃ (w1 : Int32) (I2 : Nat → Nat → Int32) (P3 : Nat → Nat → Option Nat), Cl mX11_age [.ref as0, .int xs1, .int xs2] (g, I, P) (some (.int w1)) (g, I2, P3) ∧ vp_in (x3 + 1) Ls ∧ vp_in (x3 + 2) Ls ∧ ((xs (x3 + 2).toNatClampNeg = 0) → u ≤ 600000 ∧ v ≤ 7302250 ∧ zk g a2 12 ∧ ∃ (w7 : Int32) (I8 : Nat → Nat → Int32), Cl mX12_age [.ref a2, .int (xs (x3 + 1).toNatClampNeg), .int 0] (g, I2, P3) (some (.int w7)) (g, I8, P3) ∧ ((w1 = w7) → Zt (some (Ls, xs)) mL_law u v 18 [(0, .retAddr 1000), (1, .ref a1), (2, .ref a2), (3, .int (x3 + 6))] [] (g, I8, P3) r h') ∧ ((¬ w1 = w7) → u ≤ 600000 ∧ v ≤ 7302250 ∧ r = some (.int 0) ∧ h' = (g, I8, P3))) ∧ ((¬ xs (x3 + 2).toNatClampNeg = 0) → u ≤ 600000 ∧ v ≤ 7302250 ∧ zk g a2 12 ∧ ∃ (w14 : Int32) (I15 : Nat → Nat → Int32), Cl mX12_age [.ref a2, .int (xs (x3 + 1).toNatClampNeg), .int 1] (g, I2, P3) (some (.int w14)) (g, I15, P3) ∧ ((w1 = w14) → Zt (some (Ls, xs)) mL_law u v 18 [(0, .retAddr 1000), (1, .ref a1), (2, .ref a2), (3, .int (x3 + 6))] [] (g, I15, P3) r h') ∧ ((¬ w1 = w14) → u ≤ 600000 ∧ v ≤ 7302250 ∧ r = some (.int 0) ∧ h' = (g, I15, P3)))) : Zt (some (Ls, xs)) mL_law u v 1546 [(0, .retAddr 1000), (1, .ref a1), (2, .ref a2), (3, .int x3)] [.int xs2, .int xs1, .ref as0] (g, I, P) r h' := by
  obtain ⟨huc4, hvc4, oc4, w1, I2, P3, c4, H5⟩ := H
  refine z_virt (As := [.int xs1, .int xs2]) (st := []) (r1 := (some (.int w1))) (h1 := (g, I2, P3)) dL_law_1546 kX11_age wm_L_139 ⟨by decide, by decide⟩ rfl rfl (Nat.le_of_ble_eq_true rfl) huc4 hvc4 oc4 c4 ?_
  refine z_aload_n 2 dL_law_1549 rfl rfl (z_aload_n 0 dL_law_1550 rfl rfl (z_iload_n 3 dL_law_1551 rfl (z_iconst (w := 1) dL_law_1552 (by decide) (z_iadd dL_law_1553 (z_sld rfl dL_law_1554 H5.1 (z_aload_n 0 dL_law_1555 rfl rfl (z_iload_n 3 dL_law_1556 rfl (z_iconst (w := 2) dL_law_1557 (by decide) (z_iadd dL_law_1558 (z_sld rfl dL_law_1559 H5.2.1 ?_))))))))))
  refine z_if_eq (t := 1567) dL_law_1560 (by decide) (fun q => ?_) (fun q => ?_)
  · have H6 := H5.2.2.1 q
    refine z_iconst (w := 0) dL_law_1567 (by decide) ?_
    obtain ⟨huc9, hvc9, oc9, w7, I8, c9, H10⟩ := H6
    refine z_virt (As := [.int (xs (x3 + 1).toNatClampNeg), .int 0]) (st := [.int w1]) (r1 := (some (.int w7))) (h1 := (g, I8, P3)) dL_law_1568 kX12_age wm_L_142 ⟨by decide, by decide⟩ rfl rfl (Nat.le_of_ble_eq_true rfl) huc9 hvc9 oc9 c9 ?_
    refine z_icmp_eq (t := 1705) dL_law_1571 (by decide) (fun q => ?_) (fun q => ?_)
    · have H11 := H10.1 q
      refine z_iinc (y := x3 + 6) (lv' := [(3, .int (x3 + 6)), (0, .retAddr 1000), (1, .ref a1), (2, .ref a2)]) 3 dL_law_1705 rfl rfl (by decide) rfl (z_goto (t := 18) dL_law_1708 (by decide) ?_)
      exact z_less [1, 2, 3, 0] rfl H11
    · have H12 := H10.2 q
      refine z_iconst (w := 0) dL_law_1574 (by decide) ?_
      obtain ⟨hu, hv, rfl, rfl⟩ := H12
      exact z_zret dL_law_1575 rfl (Or.inl rfl) hu hv
  · have H13 := H5.2.2.2 q
    refine z_iconst (w := 1) dL_law_1563 (by decide) (z_goto (t := 1568) dL_law_1564 (by decide) ?_)
    obtain ⟨huc16, hvc16, oc16, w14, I15, c16, H17⟩ := H13
    refine z_virt (As := [.int (xs (x3 + 1).toNatClampNeg), .int 1]) (st := [.int w1]) (r1 := (some (.int w14))) (h1 := (g, I15, P3)) dL_law_1568 kX12_age wm_L_142 ⟨by decide, by decide⟩ rfl rfl (Nat.le_of_ble_eq_true rfl) huc16 hvc16 oc16 c16 ?_
    refine z_icmp_eq (t := 1705) dL_law_1571 (by decide) (fun q => ?_) (fun q => ?_)
    · have H18 := H17.1 q
      refine z_iinc (y := x3 + 6) (lv' := [(3, .int (x3 + 6)), (0, .retAddr 1000), (1, .ref a1), (2, .ref a2)]) 3 dL_law_1705 rfl rfl (by decide) rfl (z_goto (t := 18) dL_law_1708 (by decide) ?_)
      exact z_less [1, 2, 3, 0] rfl H18
    · have H19 := H17.2 q
      refine z_iconst (w := 0) dL_law_1574 (by decide) ?_
      obtain ⟨hu, hv, rfl, rfl⟩ := H19
      exact z_zret dL_law_1575 rfl (Or.inl rfl) hu hv
set_option maxRecDepth 10000 in
theorem wL_law_1600 {g : zG} {I : Nat → Nat → Int32} {P : Nat → Nat → Option Nat} {r : Option Value} {h' : zH} {a1 : Nat} {a2 : Nat} {x3 : Int32} {as0 : Nat} {xs1 : Int32} {xs2 : Int32} {xs3 : Int32} {u : Nat} {v : Nat} {Ls : Nat} {xs : Nat → Int32} (H : u ≤ 600000 ∧ v ≤ 7302250 ∧ zk g as0 11 ∧ ∃ (w1 : Int64), Cl mX11_waits [.ref as0, .int xs1, .int xs2, .int xs3] (g, I, P) (some (.long w1)) (g, I, P) ∧ vp_in (x3 + 1) Ls ∧ vp_in (x3 + 2) Ls ∧ vp_in (x3 + 3) Ls ∧ ((xs (x3 + 3).toNatClampNeg = 0) → u ≤ 600000 ∧ v ≤ 7302250 ∧ zk g a2 12 ∧ ∃ (w5 : Int64), Cl mX12_waits [.ref a2, .int (xs (x3 + 1).toNatClampNeg), .int (xs (x3 + 2).toNatClampNeg), .int 0] (g, I, P) (some (.long w5)) (g, I, P) ∧ ((lg_cmp w1 w5 = 0) → Zt (some (Ls, xs)) mL_law u v 18 [(0, .retAddr 1000), (1, .ref a1), (2, .ref a2), (3, .int (x3 + 6))] [] (g, I, P) r h') ∧ ((¬ lg_cmp w1 w5 = 0) → u ≤ 600000 ∧ v ≤ 7302250 ∧ r = some (.int 0) ∧ h' = (g, I, P))) ∧ ((¬ xs (x3 + 3).toNatClampNeg = 0) → u ≤ 600000 ∧ v ≤ 7302250 ∧ zk g a2 12 ∧ ∃ (w11 : Int64), Cl mX12_waits [.ref a2, .int (xs (x3 + 1).toNatClampNeg), .int (xs (x3 + 2).toNatClampNeg), .int 1] (g, I, P) (some (.long w11)) (g, I, P) ∧ ((lg_cmp w1 w11 = 0) → Zt (some (Ls, xs)) mL_law u v 18 [(0, .retAddr 1000), (1, .ref a1), (2, .ref a2), (3, .int (x3 + 6))] [] (g, I, P) r h') ∧ ((¬ lg_cmp w1 w11 = 0) → u ≤ 600000 ∧ v ≤ 7302250 ∧ r = some (.int 0) ∧ h' = (g, I, P)))) : Zt (some (Ls, xs)) mL_law u v 1600 [(0, .retAddr 1000), (1, .ref a1), (2, .ref a2), (3, .int x3)] [.int xs3, .int xs2, .int xs1, .ref as0] (g, I, P) r h' := by
  obtain ⟨huc2, hvc2, oc2, w1, c2, H3⟩ := H
  refine z_virt (As := [.int xs1, .int xs2, .int xs3]) (st := []) (r1 := (some (.long w1))) (h1 := (g, I, P)) dL_law_1600 kX11_waits wm_L_143 ⟨by decide, by decide⟩ rfl rfl (Nat.le_of_ble_eq_true rfl) huc2 hvc2 oc2 c2 ?_
  refine z_aload_n 2 dL_law_1603 rfl rfl (z_aload_n 0 dL_law_1604 rfl rfl (z_iload_n 3 dL_law_1605 rfl (z_iconst (w := 1) dL_law_1606 (by decide) (z_iadd dL_law_1607 (z_sld rfl dL_law_1608 H3.1 (z_aload_n 0 dL_law_1609 rfl rfl (z_iload_n 3 dL_law_1610 rfl (z_iconst (w := 2) dL_law_1611 (by decide) (z_iadd dL_law_1612 (z_sld rfl dL_law_1613 H3.2.1 (z_aload_n 0 dL_law_1614 rfl rfl (z_iload_n 3 dL_law_1615 rfl (z_iconst (w := 3) dL_law_1616 (by decide) (z_iadd dL_law_1617 (z_sld rfl dL_law_1618 H3.2.2.1 ?_)))))))))))))))
  refine z_if_eq (t := 1626) dL_law_1619 (by decide) (fun q => ?_) (fun q => ?_)
  · have H4 := H3.2.2.2.1 q
    refine z_iconst (w := 0) dL_law_1626 (by decide) ?_
    obtain ⟨huc6, hvc6, oc6, w5, c6, H7⟩ := H4
    refine z_virt (As := [.int (xs (x3 + 1).toNatClampNeg), .int (xs (x3 + 2).toNatClampNeg), .int 0]) (st := [.long w1]) (r1 := (some (.long w5))) (h1 := (g, I, P)) dL_law_1627 kX12_waits wm_L_146 ⟨by decide, by decide⟩ rfl rfl (Nat.le_of_ble_eq_true rfl) huc6 hvc6 oc6 c6 ?_
    refine z_lcmp dL_law_1630 ?_
    refine z_if_eq (t := 1705) dL_law_1631 (by decide) (fun q => ?_) (fun q => ?_)
    · have H8 := H7.1 q
      refine z_iinc (y := x3 + 6) (lv' := [(3, .int (x3 + 6)), (0, .retAddr 1000), (1, .ref a1), (2, .ref a2)]) 3 dL_law_1705 rfl rfl (by decide) rfl (z_goto (t := 18) dL_law_1708 (by decide) ?_)
      exact z_less [1, 2, 3, 0] rfl H8
    · have H9 := H7.2 q
      refine z_iconst (w := 0) dL_law_1634 (by decide) ?_
      obtain ⟨hu, hv, rfl, rfl⟩ := H9
      exact z_zret dL_law_1635 rfl (Or.inl rfl) hu hv
  · have H10 := H3.2.2.2.2 q
    refine z_iconst (w := 1) dL_law_1622 (by decide) (z_goto (t := 1627) dL_law_1623 (by decide) ?_)
    obtain ⟨huc12, hvc12, oc12, w11, c12, H13⟩ := H10
    refine z_virt (As := [.int (xs (x3 + 1).toNatClampNeg), .int (xs (x3 + 2).toNatClampNeg), .int 1]) (st := [.long w1]) (r1 := (some (.long w11))) (h1 := (g, I, P)) dL_law_1627 kX12_waits wm_L_146 ⟨by decide, by decide⟩ rfl rfl (Nat.le_of_ble_eq_true rfl) huc12 hvc12 oc12 c12 ?_
    refine z_lcmp dL_law_1630 ?_
    refine z_if_eq (t := 1705) dL_law_1631 (by decide) (fun q => ?_) (fun q => ?_)
    · have H14 := H13.1 q
      refine z_iinc (y := x3 + 6) (lv' := [(3, .int (x3 + 6)), (0, .retAddr 1000), (1, .ref a1), (2, .ref a2)]) 3 dL_law_1705 rfl rfl (by decide) rfl (z_goto (t := 18) dL_law_1708 (by decide) ?_)
      exact z_less [1, 2, 3, 0] rfl H14
    · have H15 := H13.2 q
      refine z_iconst (w := 0) dL_law_1634 (by decide) ?_
      obtain ⟨hu, hv, rfl, rfl⟩ := H15
      exact z_zret dL_law_1635 rfl (Or.inl rfl) hu hv
