theorem dL_law_0 : decode code 0 = .ok (.new 7, 3) := by decide +kernel
theorem dL_law_3 : decode code 3 = .ok (.dup, 1) := by decide +kernel
theorem dL_law_4 : decode code 4 = .ok (.invokespecial 9, 3) := by decide +kernel
theorem dL_law_7 : decode code 7 = .ok (.astore_n 1, 1) := by decide +kernel
theorem dL_law_8 : decode code 8 = .ok (.new 10, 3) := by decide +kernel
theorem dL_law_11 : decode code 11 = .ok (.dup, 1) := by decide +kernel
theorem dL_law_12 : decode code 12 = .ok (.invokespecial 12, 3) := by decide +kernel
theorem dL_law_15 : decode code 15 = .ok (.astore_n 2, 1) := by decide +kernel
theorem dL_law_16 : decode code 16 = .ok (.iconst 0, 1) := by decide +kernel
theorem dL_law_17 : decode code 17 = .ok (.istore_n 3, 1) := by decide +kernel
theorem dL_law_18 : decode code 18 = .ok (.iload_n 3, 1) := by decide +kernel
theorem dL_law_19 : decode code 19 = .ok (.aload_n 0, 1) := by decide +kernel
theorem dL_law_20 : decode code 20 = .ok (.arraylength, 1) := by decide +kernel
theorem dL_law_21 : decode code 21 = .ok (.bipush 6, 2) := by decide +kernel
theorem dL_law_23 : decode code 23 = .ok (.isub, 1) := by decide +kernel
theorem dL_law_24 : decode code 24 = .ok (.if_icmp .gt 1115, 3) := by decide +kernel
theorem dL_law_27 : decode code 27 = .ok (.aload_n 0, 1) := by decide +kernel
theorem dL_law_28 : decode code 28 = .ok (.iload_n 3, 1) := by decide +kernel
theorem dL_law_29 : decode code 29 = .ok (.iaload, 1) := by decide +kernel
theorem dL_law_30 : decode code 30 = .ok (.bipush 31, 2) := by decide +kernel
theorem dL_law_32 : decode code 32 = .ok (.iand, 1) := by decide +kernel
theorem dL_law_33 : decode code 33 = .ok (.tableswitch 1100 0 31 #[143, 166, 189, 252, 285, 328, 351, 384, 407, 430, 463, 496, 519, 552, 575, 608, 641, 684, 707, 730, 763, 796, 820, 833, 846, 879, 932, 965, 978, 1041, 1054, 1087], 143) := by decide +kernel
theorem dL_law_176 : decode code 176 = .ok (.aload_n 1, 1) := by decide +kernel
theorem dL_law_177 : decode code 177 = .ok (.aload_n 0, 1) := by decide +kernel
theorem dL_law_178 : decode code 178 = .ok (.iload_n 3, 1) := by decide +kernel
theorem dL_law_179 : decode code 179 = .ok (.iconst 1, 1) := by decide +kernel
theorem dL_law_180 : decode code 180 = .ok (.iadd, 1) := by decide +kernel
theorem dL_law_181 : decode code 181 = .ok (.iaload, 1) := by decide +kernel
theorem dL_law_182 : decode code 182 = .ok (.invokevirtual 13, 3) := by decide +kernel
theorem dL_law_185 : decode code 185 = .ok (.aload_n 2, 1) := by decide +kernel
theorem dL_law_186 : decode code 186 = .ok (.aload_n 0, 1) := by decide +kernel
theorem dL_law_187 : decode code 187 = .ok (.iload_n 3, 1) := by decide +kernel
theorem dL_law_188 : decode code 188 = .ok (.iconst 1, 1) := by decide +kernel
theorem dL_law_189 : decode code 189 = .ok (.iadd, 1) := by decide +kernel
theorem dL_law_190 : decode code 190 = .ok (.iaload, 1) := by decide +kernel
theorem dL_law_191 : decode code 191 = .ok (.invokevirtual 17, 3) := by decide +kernel
theorem dL_law_194 : decode code 194 = .ok (.if_icmp .eq 939, 3) := by decide +kernel
theorem dL_law_197 : decode code 197 = .ok (.iconst 0, 1) := by decide +kernel
theorem dL_law_198 : decode code 198 = .ok (.ireturn, 1) := by decide +kernel
theorem dL_law_199 : decode code 199 = .ok (.aload_n 1, 1) := by decide +kernel
theorem dL_law_200 : decode code 200 = .ok (.aload_n 0, 1) := by decide +kernel
theorem dL_law_201 : decode code 201 = .ok (.iload_n 3, 1) := by decide +kernel
theorem dL_law_202 : decode code 202 = .ok (.iconst 1, 1) := by decide +kernel
theorem dL_law_203 : decode code 203 = .ok (.iadd, 1) := by decide +kernel
theorem dL_law_204 : decode code 204 = .ok (.iaload, 1) := by decide +kernel
theorem dL_law_205 : decode code 205 = .ok (.invokevirtual 18, 3) := by decide +kernel
theorem dL_law_208 : decode code 208 = .ok (.aload_n 2, 1) := by decide +kernel
theorem dL_law_209 : decode code 209 = .ok (.aload_n 0, 1) := by decide +kernel
theorem dL_law_210 : decode code 210 = .ok (.iload_n 3, 1) := by decide +kernel
theorem dL_law_211 : decode code 211 = .ok (.iconst 1, 1) := by decide +kernel
theorem dL_law_212 : decode code 212 = .ok (.iadd, 1) := by decide +kernel
theorem dL_law_213 : decode code 213 = .ok (.iaload, 1) := by decide +kernel
theorem dL_law_214 : decode code 214 = .ok (.invokevirtual 21, 3) := by decide +kernel
theorem dL_law_217 : decode code 217 = .ok (.if_icmp .eq 916, 3) := by decide +kernel
theorem dL_law_220 : decode code 220 = .ok (.iconst 0, 1) := by decide +kernel
theorem dL_law_221 : decode code 221 = .ok (.ireturn, 1) := by decide +kernel
theorem dL_law_222 : decode code 222 = .ok (.aload_n 1, 1) := by decide +kernel
theorem dL_law_223 : decode code 223 = .ok (.aload_n 0, 1) := by decide +kernel
theorem dL_law_224 : decode code 224 = .ok (.iload_n 3, 1) := by decide +kernel
theorem dL_law_225 : decode code 225 = .ok (.iconst 1, 1) := by decide +kernel
theorem dL_law_226 : decode code 226 = .ok (.iadd, 1) := by decide +kernel
theorem dL_law_227 : decode code 227 = .ok (.iaload, 1) := by decide +kernel
theorem dL_law_228 : decode code 228 = .ok (.aload_n 0, 1) := by decide +kernel
theorem dL_law_229 : decode code 229 = .ok (.iload_n 3, 1) := by decide +kernel
theorem dL_law_230 : decode code 230 = .ok (.iconst 2, 1) := by decide +kernel
theorem dL_law_231 : decode code 231 = .ok (.iadd, 1) := by decide +kernel
theorem dL_law_232 : decode code 232 = .ok (.iaload, 1) := by decide +kernel
theorem dL_law_233 : decode code 233 = .ok (.aload_n 0, 1) := by decide +kernel
theorem dL_law_234 : decode code 234 = .ok (.iload_n 3, 1) := by decide +kernel
theorem dL_law_235 : decode code 235 = .ok (.iconst 3, 1) := by decide +kernel
theorem dL_law_236 : decode code 236 = .ok (.iadd, 1) := by decide +kernel
theorem dL_law_237 : decode code 237 = .ok (.iaload, 1) := by decide +kernel
theorem dL_law_238 : decode code 238 = .ok (.aload_n 0, 1) := by decide +kernel
theorem dL_law_239 : decode code 239 = .ok (.iload_n 3, 1) := by decide +kernel
theorem dL_law_240 : decode code 240 = .ok (.iconst 4, 1) := by decide +kernel
theorem dL_law_241 : decode code 241 = .ok (.iadd, 1) := by decide +kernel
theorem dL_law_242 : decode code 242 = .ok (.iaload, 1) := by decide +kernel
theorem dL_law_243 : decode code 243 = .ok (.aload_n 0, 1) := by decide +kernel
theorem dL_law_244 : decode code 244 = .ok (.iload_n 3, 1) := by decide +kernel
theorem dL_law_245 : decode code 245 = .ok (.iconst 5, 1) := by decide +kernel
theorem dL_law_246 : decode code 246 = .ok (.iadd, 1) := by decide +kernel
theorem dL_law_247 : decode code 247 = .ok (.iaload, 1) := by decide +kernel
theorem dL_law_248 : decode code 248 = .ok (.invokevirtual 22, 3) := by decide +kernel
theorem dL_law_251 : decode code 251 = .ok (.aload_n 2, 1) := by decide +kernel
theorem dL_law_252 : decode code 252 = .ok (.aload_n 0, 1) := by decide +kernel
theorem dL_law_253 : decode code 253 = .ok (.iload_n 3, 1) := by decide +kernel
theorem dL_law_254 : decode code 254 = .ok (.iconst 1, 1) := by decide +kernel
theorem dL_law_255 : decode code 255 = .ok (.iadd, 1) := by decide +kernel
theorem dL_law_256 : decode code 256 = .ok (.iaload, 1) := by decide +kernel
theorem dL_law_257 : decode code 257 = .ok (.aload_n 0, 1) := by decide +kernel
theorem dL_law_258 : decode code 258 = .ok (.iload_n 3, 1) := by decide +kernel
theorem dL_law_259 : decode code 259 = .ok (.iconst 2, 1) := by decide +kernel
theorem dL_law_260 : decode code 260 = .ok (.iadd, 1) := by decide +kernel
theorem dL_law_261 : decode code 261 = .ok (.iaload, 1) := by decide +kernel
theorem dL_law_262 : decode code 262 = .ok (.aload_n 0, 1) := by decide +kernel
theorem dL_law_263 : decode code 263 = .ok (.iload_n 3, 1) := by decide +kernel
theorem dL_law_264 : decode code 264 = .ok (.iconst 3, 1) := by decide +kernel
theorem dL_law_265 : decode code 265 = .ok (.iadd, 1) := by decide +kernel
theorem dL_law_266 : decode code 266 = .ok (.iaload, 1) := by decide +kernel
theorem dL_law_267 : decode code 267 = .ok (.aload_n 0, 1) := by decide +kernel
theorem dL_law_268 : decode code 268 = .ok (.iload_n 3, 1) := by decide +kernel
theorem dL_law_269 : decode code 269 = .ok (.iconst 4, 1) := by decide +kernel
theorem dL_law_270 : decode code 270 = .ok (.iadd, 1) := by decide +kernel
theorem dL_law_271 : decode code 271 = .ok (.iaload, 1) := by decide +kernel
theorem dL_law_272 : decode code 272 = .ok (.aload_n 0, 1) := by decide +kernel
theorem dL_law_273 : decode code 273 = .ok (.iload_n 3, 1) := by decide +kernel
theorem dL_law_274 : decode code 274 = .ok (.iconst 5, 1) := by decide +kernel
theorem dL_law_275 : decode code 275 = .ok (.iadd, 1) := by decide +kernel
theorem dL_law_276 : decode code 276 = .ok (.iaload, 1) := by decide +kernel
theorem dL_law_277 : decode code 277 = .ok (.invokevirtual 26, 3) := by decide +kernel
theorem dL_law_280 : decode code 280 = .ok (.if_icmp .eq 853, 3) := by decide +kernel
theorem dL_law_283 : decode code 283 = .ok (.iconst 0, 1) := by decide +kernel
theorem dL_law_284 : decode code 284 = .ok (.ireturn, 1) := by decide +kernel
theorem dL_law_285 : decode code 285 = .ok (.aload_n 1, 1) := by decide +kernel
theorem dL_law_286 : decode code 286 = .ok (.aload_n 0, 1) := by decide +kernel
theorem dL_law_287 : decode code 287 = .ok (.iload_n 3, 1) := by decide +kernel
theorem dL_law_288 : decode code 288 = .ok (.iconst 1, 1) := by decide +kernel
theorem dL_law_289 : decode code 289 = .ok (.iadd, 1) := by decide +kernel
theorem dL_law_290 : decode code 290 = .ok (.iaload, 1) := by decide +kernel
theorem dL_law_291 : decode code 291 = .ok (.aload_n 0, 1) := by decide +kernel
theorem dL_law_292 : decode code 292 = .ok (.iload_n 3, 1) := by decide +kernel
theorem dL_law_293 : decode code 293 = .ok (.iconst 2, 1) := by decide +kernel
theorem dL_law_294 : decode code 294 = .ok (.iadd, 1) := by decide +kernel
theorem dL_law_295 : decode code 295 = .ok (.iaload, 1) := by decide +kernel
theorem dL_law_296 : decode code 296 = .ok (.invokevirtual 27, 3) := by decide +kernel
theorem dL_law_299 : decode code 299 = .ok (.aload_n 2, 1) := by decide +kernel
theorem dL_law_300 : decode code 300 = .ok (.aload_n 0, 1) := by decide +kernel
theorem dL_law_301 : decode code 301 = .ok (.iload_n 3, 1) := by decide +kernel
theorem dL_law_302 : decode code 302 = .ok (.iconst 1, 1) := by decide +kernel
theorem dL_law_303 : decode code 303 = .ok (.iadd, 1) := by decide +kernel
theorem dL_law_304 : decode code 304 = .ok (.iaload, 1) := by decide +kernel
theorem dL_law_305 : decode code 305 = .ok (.aload_n 0, 1) := by decide +kernel
theorem dL_law_306 : decode code 306 = .ok (.iload_n 3, 1) := by decide +kernel
theorem dL_law_307 : decode code 307 = .ok (.iconst 2, 1) := by decide +kernel
theorem dL_law_308 : decode code 308 = .ok (.iadd, 1) := by decide +kernel
theorem dL_law_309 : decode code 309 = .ok (.iaload, 1) := by decide +kernel
theorem dL_law_310 : decode code 310 = .ok (.invokevirtual 31, 3) := by decide +kernel
theorem dL_law_313 : decode code 313 = .ok (.if_icmp .eq 820, 3) := by decide +kernel
theorem dL_law_316 : decode code 316 = .ok (.iconst 0, 1) := by decide +kernel
theorem dL_law_317 : decode code 317 = .ok (.ireturn, 1) := by decide +kernel
theorem dL_law_318 : decode code 318 = .ok (.aload_n 1, 1) := by decide +kernel
theorem dL_law_319 : decode code 319 = .ok (.aload_n 0, 1) := by decide +kernel
theorem dL_law_320 : decode code 320 = .ok (.iload_n 3, 1) := by decide +kernel
theorem dL_law_321 : decode code 321 = .ok (.iconst 1, 1) := by decide +kernel
theorem dL_law_322 : decode code 322 = .ok (.iadd, 1) := by decide +kernel
theorem dL_law_323 : decode code 323 = .ok (.iaload, 1) := by decide +kernel
theorem dL_law_324 : decode code 324 = .ok (.aload_n 0, 1) := by decide +kernel
theorem dL_law_325 : decode code 325 = .ok (.iload_n 3, 1) := by decide +kernel
theorem dL_law_326 : decode code 326 = .ok (.iconst 2, 1) := by decide +kernel
theorem dL_law_327 : decode code 327 = .ok (.iadd, 1) := by decide +kernel
theorem dL_law_328 : decode code 328 = .ok (.iaload, 1) := by decide +kernel
theorem dL_law_329 : decode code 329 = .ok (.aload_n 0, 1) := by decide +kernel
theorem dL_law_330 : decode code 330 = .ok (.iload_n 3, 1) := by decide +kernel
theorem dL_law_331 : decode code 331 = .ok (.iconst 3, 1) := by decide +kernel
theorem dL_law_332 : decode code 332 = .ok (.iadd, 1) := by decide +kernel
theorem dL_law_333 : decode code 333 = .ok (.iaload, 1) := by decide +kernel
theorem dL_law_334 : decode code 334 = .ok (.invokevirtual 32, 3) := by decide +kernel
theorem dL_law_337 : decode code 337 = .ok (.aload_n 2, 1) := by decide +kernel
theorem dL_law_338 : decode code 338 = .ok (.aload_n 0, 1) := by decide +kernel
theorem dL_law_339 : decode code 339 = .ok (.iload_n 3, 1) := by decide +kernel
theorem dL_law_340 : decode code 340 = .ok (.iconst 1, 1) := by decide +kernel
theorem dL_law_341 : decode code 341 = .ok (.iadd, 1) := by decide +kernel
theorem dL_law_342 : decode code 342 = .ok (.iaload, 1) := by decide +kernel
theorem dL_law_343 : decode code 343 = .ok (.aload_n 0, 1) := by decide +kernel
theorem dL_law_344 : decode code 344 = .ok (.iload_n 3, 1) := by decide +kernel
theorem dL_law_345 : decode code 345 = .ok (.iconst 2, 1) := by decide +kernel
theorem dL_law_346 : decode code 346 = .ok (.iadd, 1) := by decide +kernel
theorem dL_law_347 : decode code 347 = .ok (.iaload, 1) := by decide +kernel
theorem dL_law_348 : decode code 348 = .ok (.aload_n 0, 1) := by decide +kernel
theorem dL_law_349 : decode code 349 = .ok (.iload_n 3, 1) := by decide +kernel
theorem dL_law_350 : decode code 350 = .ok (.iconst 3, 1) := by decide +kernel
theorem dL_law_351 : decode code 351 = .ok (.iadd, 1) := by decide +kernel
theorem dL_law_352 : decode code 352 = .ok (.iaload, 1) := by decide +kernel
theorem dL_law_353 : decode code 353 = .ok (.invokevirtual 36, 3) := by decide +kernel
theorem dL_law_356 : decode code 356 = .ok (.if_icmp .eq 777, 3) := by decide +kernel
theorem dL_law_359 : decode code 359 = .ok (.iconst 0, 1) := by decide +kernel
theorem dL_law_360 : decode code 360 = .ok (.ireturn, 1) := by decide +kernel
theorem dL_law_361 : decode code 361 = .ok (.aload_n 1, 1) := by decide +kernel
theorem dL_law_362 : decode code 362 = .ok (.aload_n 0, 1) := by decide +kernel
theorem dL_law_363 : decode code 363 = .ok (.iload_n 3, 1) := by decide +kernel
theorem dL_law_364 : decode code 364 = .ok (.iconst 1, 1) := by decide +kernel
theorem dL_law_365 : decode code 365 = .ok (.iadd, 1) := by decide +kernel
theorem dL_law_366 : decode code 366 = .ok (.iaload, 1) := by decide +kernel
theorem dL_law_367 : decode code 367 = .ok (.invokevirtual 37, 3) := by decide +kernel
theorem dL_law_370 : decode code 370 = .ok (.aload_n 2, 1) := by decide +kernel
theorem dL_law_371 : decode code 371 = .ok (.aload_n 0, 1) := by decide +kernel
theorem dL_law_372 : decode code 372 = .ok (.iload_n 3, 1) := by decide +kernel
theorem dL_law_373 : decode code 373 = .ok (.iconst 1, 1) := by decide +kernel
theorem dL_law_374 : decode code 374 = .ok (.iadd, 1) := by decide +kernel
theorem dL_law_375 : decode code 375 = .ok (.iaload, 1) := by decide +kernel
theorem dL_law_376 : decode code 376 = .ok (.invokevirtual 40, 3) := by decide +kernel
theorem dL_law_379 : decode code 379 = .ok (.if_icmp .eq 754, 3) := by decide +kernel
theorem dL_law_382 : decode code 382 = .ok (.iconst 0, 1) := by decide +kernel
theorem dL_law_383 : decode code 383 = .ok (.ireturn, 1) := by decide +kernel
theorem dL_law_384 : decode code 384 = .ok (.aload_n 1, 1) := by decide +kernel
theorem dL_law_385 : decode code 385 = .ok (.aload_n 0, 1) := by decide +kernel
theorem dL_law_386 : decode code 386 = .ok (.iload_n 3, 1) := by decide +kernel
theorem dL_law_387 : decode code 387 = .ok (.iconst 1, 1) := by decide +kernel
theorem dL_law_388 : decode code 388 = .ok (.iadd, 1) := by decide +kernel
theorem dL_law_389 : decode code 389 = .ok (.iaload, 1) := by decide +kernel
theorem dL_law_390 : decode code 390 = .ok (.aload_n 0, 1) := by decide +kernel
theorem dL_law_391 : decode code 391 = .ok (.iload_n 3, 1) := by decide +kernel
theorem dL_law_392 : decode code 392 = .ok (.iconst 2, 1) := by decide +kernel
theorem dL_law_393 : decode code 393 = .ok (.iadd, 1) := by decide +kernel
theorem dL_law_394 : decode code 394 = .ok (.iaload, 1) := by decide +kernel
theorem dL_law_395 : decode code 395 = .ok (.invokevirtual 41, 3) := by decide +kernel
theorem dL_law_398 : decode code 398 = .ok (.aload_n 2, 1) := by decide +kernel
theorem dL_law_399 : decode code 399 = .ok (.aload_n 0, 1) := by decide +kernel
theorem dL_law_400 : decode code 400 = .ok (.iload_n 3, 1) := by decide +kernel
theorem dL_law_401 : decode code 401 = .ok (.iconst 1, 1) := by decide +kernel
theorem dL_law_402 : decode code 402 = .ok (.iadd, 1) := by decide +kernel
theorem dL_law_403 : decode code 403 = .ok (.iaload, 1) := by decide +kernel
theorem dL_law_404 : decode code 404 = .ok (.aload_n 0, 1) := by decide +kernel
theorem dL_law_405 : decode code 405 = .ok (.iload_n 3, 1) := by decide +kernel
theorem dL_law_406 : decode code 406 = .ok (.iconst 2, 1) := by decide +kernel
theorem dL_law_407 : decode code 407 = .ok (.iadd, 1) := by decide +kernel
theorem dL_law_408 : decode code 408 = .ok (.iaload, 1) := by decide +kernel
theorem dL_law_409 : decode code 409 = .ok (.invokevirtual 44, 3) := by decide +kernel
theorem dL_law_412 : decode code 412 = .ok (.if_icmp .eq 721, 3) := by decide +kernel
theorem dL_law_415 : decode code 415 = .ok (.iconst 0, 1) := by decide +kernel
theorem dL_law_416 : decode code 416 = .ok (.ireturn, 1) := by decide +kernel
theorem dL_law_417 : decode code 417 = .ok (.aload_n 1, 1) := by decide +kernel
theorem dL_law_418 : decode code 418 = .ok (.aload_n 0, 1) := by decide +kernel
theorem dL_law_419 : decode code 419 = .ok (.iload_n 3, 1) := by decide +kernel
theorem dL_law_420 : decode code 420 = .ok (.iconst 1, 1) := by decide +kernel
theorem dL_law_421 : decode code 421 = .ok (.iadd, 1) := by decide +kernel
theorem dL_law_422 : decode code 422 = .ok (.iaload, 1) := by decide +kernel
theorem dL_law_423 : decode code 423 = .ok (.invokevirtual 45, 3) := by decide +kernel
theorem dL_law_426 : decode code 426 = .ok (.aload_n 2, 1) := by decide +kernel
theorem dL_law_427 : decode code 427 = .ok (.aload_n 0, 1) := by decide +kernel
theorem dL_law_428 : decode code 428 = .ok (.iload_n 3, 1) := by decide +kernel
theorem dL_law_429 : decode code 429 = .ok (.iconst 1, 1) := by decide +kernel
theorem dL_law_430 : decode code 430 = .ok (.iadd, 1) := by decide +kernel
theorem dL_law_431 : decode code 431 = .ok (.iaload, 1) := by decide +kernel
theorem dL_law_432 : decode code 432 = .ok (.invokevirtual 48, 3) := by decide +kernel
theorem dL_law_435 : decode code 435 = .ok (.if_icmp .eq 698, 3) := by decide +kernel
theorem dL_law_438 : decode code 438 = .ok (.iconst 0, 1) := by decide +kernel
theorem dL_law_439 : decode code 439 = .ok (.ireturn, 1) := by decide +kernel
theorem dL_law_440 : decode code 440 = .ok (.aload_n 1, 1) := by decide +kernel
theorem dL_law_441 : decode code 441 = .ok (.aload_n 0, 1) := by decide +kernel
theorem dL_law_442 : decode code 442 = .ok (.iload_n 3, 1) := by decide +kernel
theorem dL_law_443 : decode code 443 = .ok (.iconst 1, 1) := by decide +kernel
theorem dL_law_444 : decode code 444 = .ok (.iadd, 1) := by decide +kernel
theorem dL_law_445 : decode code 445 = .ok (.iaload, 1) := by decide +kernel
theorem dL_law_446 : decode code 446 = .ok (.invokevirtual 49, 3) := by decide +kernel
theorem dL_law_449 : decode code 449 = .ok (.aload_n 2, 1) := by decide +kernel
theorem dL_law_450 : decode code 450 = .ok (.aload_n 0, 1) := by decide +kernel
theorem dL_law_451 : decode code 451 = .ok (.iload_n 3, 1) := by decide +kernel
theorem dL_law_452 : decode code 452 = .ok (.iconst 1, 1) := by decide +kernel
theorem dL_law_453 : decode code 453 = .ok (.iadd, 1) := by decide +kernel
theorem dL_law_454 : decode code 454 = .ok (.iaload, 1) := by decide +kernel
theorem dL_law_455 : decode code 455 = .ok (.invokevirtual 52, 3) := by decide +kernel
theorem dL_law_458 : decode code 458 = .ok (.if_icmp .eq 675, 3) := by decide +kernel
theorem dL_law_461 : decode code 461 = .ok (.iconst 0, 1) := by decide +kernel
theorem dL_law_462 : decode code 462 = .ok (.ireturn, 1) := by decide +kernel
theorem dL_law_463 : decode code 463 = .ok (.aload_n 1, 1) := by decide +kernel
theorem dL_law_464 : decode code 464 = .ok (.aload_n 0, 1) := by decide +kernel
theorem dL_law_465 : decode code 465 = .ok (.iload_n 3, 1) := by decide +kernel
theorem dL_law_466 : decode code 466 = .ok (.iconst 1, 1) := by decide +kernel
theorem dL_law_467 : decode code 467 = .ok (.iadd, 1) := by decide +kernel
theorem dL_law_468 : decode code 468 = .ok (.iaload, 1) := by decide +kernel
theorem dL_law_469 : decode code 469 = .ok (.aload_n 0, 1) := by decide +kernel
theorem dL_law_470 : decode code 470 = .ok (.iload_n 3, 1) := by decide +kernel
theorem dL_law_471 : decode code 471 = .ok (.iconst 2, 1) := by decide +kernel
theorem dL_law_472 : decode code 472 = .ok (.iadd, 1) := by decide +kernel
theorem dL_law_473 : decode code 473 = .ok (.iaload, 1) := by decide +kernel
theorem dL_law_474 : decode code 474 = .ok (.invokevirtual 53, 3) := by decide +kernel
theorem dL_law_477 : decode code 477 = .ok (.aload_n 2, 1) := by decide +kernel
theorem dL_law_478 : decode code 478 = .ok (.aload_n 0, 1) := by decide +kernel
theorem dL_law_479 : decode code 479 = .ok (.iload_n 3, 1) := by decide +kernel
theorem dL_law_480 : decode code 480 = .ok (.iconst 1, 1) := by decide +kernel
theorem dL_law_481 : decode code 481 = .ok (.iadd, 1) := by decide +kernel
theorem dL_law_482 : decode code 482 = .ok (.iaload, 1) := by decide +kernel
theorem dL_law_483 : decode code 483 = .ok (.aload_n 0, 1) := by decide +kernel
theorem dL_law_484 : decode code 484 = .ok (.iload_n 3, 1) := by decide +kernel
theorem dL_law_485 : decode code 485 = .ok (.iconst 2, 1) := by decide +kernel
theorem dL_law_486 : decode code 486 = .ok (.iadd, 1) := by decide +kernel
theorem dL_law_487 : decode code 487 = .ok (.iaload, 1) := by decide +kernel
theorem dL_law_488 : decode code 488 = .ok (.invokevirtual 56, 3) := by decide +kernel
theorem dL_law_491 : decode code 491 = .ok (.if_icmp .eq 642, 3) := by decide +kernel
theorem dL_law_494 : decode code 494 = .ok (.iconst 0, 1) := by decide +kernel
theorem dL_law_495 : decode code 495 = .ok (.ireturn, 1) := by decide +kernel
theorem dL_law_496 : decode code 496 = .ok (.aload_n 1, 1) := by decide +kernel
theorem dL_law_497 : decode code 497 = .ok (.aload_n 0, 1) := by decide +kernel
theorem dL_law_498 : decode code 498 = .ok (.iload_n 3, 1) := by decide +kernel
theorem dL_law_499 : decode code 499 = .ok (.iconst 1, 1) := by decide +kernel
theorem dL_law_500 : decode code 500 = .ok (.iadd, 1) := by decide +kernel
theorem dL_law_501 : decode code 501 = .ok (.iaload, 1) := by decide +kernel
theorem dL_law_502 : decode code 502 = .ok (.aload_n 0, 1) := by decide +kernel
theorem dL_law_503 : decode code 503 = .ok (.iload_n 3, 1) := by decide +kernel
theorem dL_law_504 : decode code 504 = .ok (.iconst 2, 1) := by decide +kernel
theorem dL_law_505 : decode code 505 = .ok (.iadd, 1) := by decide +kernel
theorem dL_law_506 : decode code 506 = .ok (.iaload, 1) := by decide +kernel
theorem dL_law_507 : decode code 507 = .ok (.invokevirtual 57, 3) := by decide +kernel
theorem dL_law_510 : decode code 510 = .ok (.aload_n 2, 1) := by decide +kernel
theorem dL_law_511 : decode code 511 = .ok (.aload_n 0, 1) := by decide +kernel
theorem dL_law_512 : decode code 512 = .ok (.iload_n 3, 1) := by decide +kernel
theorem dL_law_513 : decode code 513 = .ok (.iconst 1, 1) := by decide +kernel
theorem dL_law_514 : decode code 514 = .ok (.iadd, 1) := by decide +kernel
theorem dL_law_515 : decode code 515 = .ok (.iaload, 1) := by decide +kernel
theorem dL_law_516 : decode code 516 = .ok (.aload_n 0, 1) := by decide +kernel
theorem dL_law_517 : decode code 517 = .ok (.iload_n 3, 1) := by decide +kernel
theorem dL_law_518 : decode code 518 = .ok (.iconst 2, 1) := by decide +kernel
theorem dL_law_519 : decode code 519 = .ok (.iadd, 1) := by decide +kernel
theorem dL_law_520 : decode code 520 = .ok (.iaload, 1) := by decide +kernel
theorem dL_law_521 : decode code 521 = .ok (.invokevirtual 60, 3) := by decide +kernel
theorem dL_law_524 : decode code 524 = .ok (.if_icmp .eq 609, 3) := by decide +kernel
theorem dL_law_527 : decode code 527 = .ok (.iconst 0, 1) := by decide +kernel
theorem dL_law_528 : decode code 528 = .ok (.ireturn, 1) := by decide +kernel
theorem dL_law_529 : decode code 529 = .ok (.aload_n 1, 1) := by decide +kernel
theorem dL_law_530 : decode code 530 = .ok (.aload_n 0, 1) := by decide +kernel
theorem dL_law_531 : decode code 531 = .ok (.iload_n 3, 1) := by decide +kernel
theorem dL_law_532 : decode code 532 = .ok (.iconst 1, 1) := by decide +kernel
theorem dL_law_533 : decode code 533 = .ok (.iadd, 1) := by decide +kernel
theorem dL_law_534 : decode code 534 = .ok (.iaload, 1) := by decide +kernel
theorem dL_law_535 : decode code 535 = .ok (.invokevirtual 61, 3) := by decide +kernel
theorem dL_law_538 : decode code 538 = .ok (.aload_n 2, 1) := by decide +kernel
theorem dL_law_539 : decode code 539 = .ok (.aload_n 0, 1) := by decide +kernel
theorem dL_law_540 : decode code 540 = .ok (.iload_n 3, 1) := by decide +kernel
theorem dL_law_541 : decode code 541 = .ok (.iconst 1, 1) := by decide +kernel
theorem dL_law_542 : decode code 542 = .ok (.iadd, 1) := by decide +kernel
theorem dL_law_543 : decode code 543 = .ok (.iaload, 1) := by decide +kernel
theorem dL_law_544 : decode code 544 = .ok (.invokevirtual 64, 3) := by decide +kernel
theorem dL_law_547 : decode code 547 = .ok (.if_icmp .eq 586, 3) := by decide +kernel
theorem dL_law_550 : decode code 550 = .ok (.iconst 0, 1) := by decide +kernel
theorem dL_law_551 : decode code 551 = .ok (.ireturn, 1) := by decide +kernel
theorem dL_law_552 : decode code 552 = .ok (.aload_n 1, 1) := by decide +kernel
theorem dL_law_553 : decode code 553 = .ok (.aload_n 0, 1) := by decide +kernel
theorem dL_law_554 : decode code 554 = .ok (.iload_n 3, 1) := by decide +kernel
theorem dL_law_555 : decode code 555 = .ok (.iconst 1, 1) := by decide +kernel
theorem dL_law_556 : decode code 556 = .ok (.iadd, 1) := by decide +kernel
theorem dL_law_557 : decode code 557 = .ok (.iaload, 1) := by decide +kernel
theorem dL_law_558 : decode code 558 = .ok (.aload_n 0, 1) := by decide +kernel
theorem dL_law_559 : decode code 559 = .ok (.iload_n 3, 1) := by decide +kernel
theorem dL_law_560 : decode code 560 = .ok (.iconst 2, 1) := by decide +kernel
theorem dL_law_561 : decode code 561 = .ok (.iadd, 1) := by decide +kernel
theorem dL_law_562 : decode code 562 = .ok (.iaload, 1) := by decide +kernel
theorem dL_law_563 : decode code 563 = .ok (.invokevirtual 65, 3) := by decide +kernel
theorem dL_law_566 : decode code 566 = .ok (.aload_n 2, 1) := by decide +kernel
theorem dL_law_567 : decode code 567 = .ok (.aload_n 0, 1) := by decide +kernel
theorem dL_law_568 : decode code 568 = .ok (.iload_n 3, 1) := by decide +kernel
theorem dL_law_569 : decode code 569 = .ok (.iconst 1, 1) := by decide +kernel
theorem dL_law_570 : decode code 570 = .ok (.iadd, 1) := by decide +kernel
theorem dL_law_571 : decode code 571 = .ok (.iaload, 1) := by decide +kernel
theorem dL_law_572 : decode code 572 = .ok (.aload_n 0, 1) := by decide +kernel
theorem dL_law_573 : decode code 573 = .ok (.iload_n 3, 1) := by decide +kernel
theorem dL_law_574 : decode code 574 = .ok (.iconst 2, 1) := by decide +kernel
theorem dL_law_575 : decode code 575 = .ok (.iadd, 1) := by decide +kernel
theorem dL_law_576 : decode code 576 = .ok (.iaload, 1) := by decide +kernel
theorem dL_law_577 : decode code 577 = .ok (.invokevirtual 68, 3) := by decide +kernel
theorem dL_law_580 : decode code 580 = .ok (.if_icmp .eq 553, 3) := by decide +kernel
theorem dL_law_583 : decode code 583 = .ok (.iconst 0, 1) := by decide +kernel
theorem dL_law_584 : decode code 584 = .ok (.ireturn, 1) := by decide +kernel
theorem dL_law_585 : decode code 585 = .ok (.aload_n 1, 1) := by decide +kernel
theorem dL_law_586 : decode code 586 = .ok (.aload_n 0, 1) := by decide +kernel
theorem dL_law_587 : decode code 587 = .ok (.iload_n 3, 1) := by decide +kernel
theorem dL_law_588 : decode code 588 = .ok (.iconst 1, 1) := by decide +kernel
theorem dL_law_589 : decode code 589 = .ok (.iadd, 1) := by decide +kernel
theorem dL_law_590 : decode code 590 = .ok (.iaload, 1) := by decide +kernel
theorem dL_law_591 : decode code 591 = .ok (.invokevirtual 69, 3) := by decide +kernel
theorem dL_law_594 : decode code 594 = .ok (.aload_n 2, 1) := by decide +kernel
theorem dL_law_595 : decode code 595 = .ok (.aload_n 0, 1) := by decide +kernel
theorem dL_law_596 : decode code 596 = .ok (.iload_n 3, 1) := by decide +kernel
theorem dL_law_597 : decode code 597 = .ok (.iconst 1, 1) := by decide +kernel
theorem dL_law_598 : decode code 598 = .ok (.iadd, 1) := by decide +kernel
theorem dL_law_599 : decode code 599 = .ok (.iaload, 1) := by decide +kernel
theorem dL_law_600 : decode code 600 = .ok (.invokevirtual 72, 3) := by decide +kernel
theorem dL_law_603 : decode code 603 = .ok (.if_icmp .eq 530, 3) := by decide +kernel
theorem dL_law_606 : decode code 606 = .ok (.iconst 0, 1) := by decide +kernel
theorem dL_law_607 : decode code 607 = .ok (.ireturn, 1) := by decide +kernel
theorem dL_law_608 : decode code 608 = .ok (.aload_n 1, 1) := by decide +kernel
theorem dL_law_609 : decode code 609 = .ok (.aload_n 0, 1) := by decide +kernel
theorem dL_law_610 : decode code 610 = .ok (.iload_n 3, 1) := by decide +kernel
theorem dL_law_611 : decode code 611 = .ok (.iconst 1, 1) := by decide +kernel
theorem dL_law_612 : decode code 612 = .ok (.iadd, 1) := by decide +kernel
theorem dL_law_613 : decode code 613 = .ok (.iaload, 1) := by decide +kernel
theorem dL_law_614 : decode code 614 = .ok (.aload_n 0, 1) := by decide +kernel
theorem dL_law_615 : decode code 615 = .ok (.iload_n 3, 1) := by decide +kernel
theorem dL_law_616 : decode code 616 = .ok (.iconst 2, 1) := by decide +kernel
theorem dL_law_617 : decode code 617 = .ok (.iadd, 1) := by decide +kernel
theorem dL_law_618 : decode code 618 = .ok (.iaload, 1) := by decide +kernel
theorem dL_law_619 : decode code 619 = .ok (.invokevirtual 73, 3) := by decide +kernel
theorem dL_law_622 : decode code 622 = .ok (.aload_n 2, 1) := by decide +kernel
theorem dL_law_623 : decode code 623 = .ok (.aload_n 0, 1) := by decide +kernel
theorem dL_law_624 : decode code 624 = .ok (.iload_n 3, 1) := by decide +kernel
theorem dL_law_625 : decode code 625 = .ok (.iconst 1, 1) := by decide +kernel
theorem dL_law_626 : decode code 626 = .ok (.iadd, 1) := by decide +kernel
theorem dL_law_627 : decode code 627 = .ok (.iaload, 1) := by decide +kernel
theorem dL_law_628 : decode code 628 = .ok (.aload_n 0, 1) := by decide +kernel
theorem dL_law_629 : decode code 629 = .ok (.iload_n 3, 1) := by decide +kernel
theorem dL_law_630 : decode code 630 = .ok (.iconst 2, 1) := by decide +kernel
theorem dL_law_631 : decode code 631 = .ok (.iadd, 1) := by decide +kernel
theorem dL_law_632 : decode code 632 = .ok (.iaload, 1) := by decide +kernel
theorem dL_law_633 : decode code 633 = .ok (.invokevirtual 76, 3) := by decide +kernel
theorem dL_law_636 : decode code 636 = .ok (.if_icmp .eq 497, 3) := by decide +kernel
theorem dL_law_639 : decode code 639 = .ok (.iconst 0, 1) := by decide +kernel
theorem dL_law_640 : decode code 640 = .ok (.ireturn, 1) := by decide +kernel
theorem dL_law_641 : decode code 641 = .ok (.aload_n 1, 1) := by decide +kernel
theorem dL_law_642 : decode code 642 = .ok (.aload_n 0, 1) := by decide +kernel
theorem dL_law_643 : decode code 643 = .ok (.iload_n 3, 1) := by decide +kernel
theorem dL_law_644 : decode code 644 = .ok (.iconst 1, 1) := by decide +kernel
theorem dL_law_645 : decode code 645 = .ok (.iadd, 1) := by decide +kernel
theorem dL_law_646 : decode code 646 = .ok (.iaload, 1) := by decide +kernel
theorem dL_law_647 : decode code 647 = .ok (.aload_n 0, 1) := by decide +kernel
theorem dL_law_648 : decode code 648 = .ok (.iload_n 3, 1) := by decide +kernel
theorem dL_law_649 : decode code 649 = .ok (.iconst 2, 1) := by decide +kernel
theorem dL_law_650 : decode code 650 = .ok (.iadd, 1) := by decide +kernel
theorem dL_law_651 : decode code 651 = .ok (.iaload, 1) := by decide +kernel
theorem dL_law_652 : decode code 652 = .ok (.invokevirtual 77, 3) := by decide +kernel
theorem dL_law_655 : decode code 655 = .ok (.aload_n 2, 1) := by decide +kernel
theorem dL_law_656 : decode code 656 = .ok (.aload_n 0, 1) := by decide +kernel
theorem dL_law_657 : decode code 657 = .ok (.iload_n 3, 1) := by decide +kernel
theorem dL_law_658 : decode code 658 = .ok (.iconst 1, 1) := by decide +kernel
theorem dL_law_659 : decode code 659 = .ok (.iadd, 1) := by decide +kernel
theorem dL_law_660 : decode code 660 = .ok (.iaload, 1) := by decide +kernel
theorem dL_law_661 : decode code 661 = .ok (.aload_n 0, 1) := by decide +kernel
theorem dL_law_662 : decode code 662 = .ok (.iload_n 3, 1) := by decide +kernel
theorem dL_law_663 : decode code 663 = .ok (.iconst 2, 1) := by decide +kernel
theorem dL_law_664 : decode code 664 = .ok (.iadd, 1) := by decide +kernel
theorem dL_law_665 : decode code 665 = .ok (.iaload, 1) := by decide +kernel
theorem dL_law_666 : decode code 666 = .ok (.invokevirtual 80, 3) := by decide +kernel
theorem dL_law_669 : decode code 669 = .ok (.if_icmp .eq 464, 3) := by decide +kernel
theorem dL_law_672 : decode code 672 = .ok (.iconst 0, 1) := by decide +kernel
theorem dL_law_673 : decode code 673 = .ok (.ireturn, 1) := by decide +kernel
theorem dL_law_674 : decode code 674 = .ok (.aload_n 1, 1) := by decide +kernel
theorem dL_law_675 : decode code 675 = .ok (.aload_n 0, 1) := by decide +kernel
theorem dL_law_676 : decode code 676 = .ok (.iload_n 3, 1) := by decide +kernel
theorem dL_law_677 : decode code 677 = .ok (.iconst 1, 1) := by decide +kernel
theorem dL_law_678 : decode code 678 = .ok (.iadd, 1) := by decide +kernel
theorem dL_law_679 : decode code 679 = .ok (.iaload, 1) := by decide +kernel
theorem dL_law_680 : decode code 680 = .ok (.aload_n 0, 1) := by decide +kernel
theorem dL_law_681 : decode code 681 = .ok (.iload_n 3, 1) := by decide +kernel
theorem dL_law_682 : decode code 682 = .ok (.iconst 2, 1) := by decide +kernel
theorem dL_law_683 : decode code 683 = .ok (.iadd, 1) := by decide +kernel
theorem dL_law_684 : decode code 684 = .ok (.iaload, 1) := by decide +kernel
theorem dL_law_685 : decode code 685 = .ok (.aload_n 0, 1) := by decide +kernel
theorem dL_law_686 : decode code 686 = .ok (.iload_n 3, 1) := by decide +kernel
theorem dL_law_687 : decode code 687 = .ok (.iconst 3, 1) := by decide +kernel
theorem dL_law_688 : decode code 688 = .ok (.iadd, 1) := by decide +kernel
theorem dL_law_689 : decode code 689 = .ok (.iaload, 1) := by decide +kernel
theorem dL_law_690 : decode code 690 = .ok (.invokevirtual 81, 3) := by decide +kernel
theorem dL_law_693 : decode code 693 = .ok (.aload_n 2, 1) := by decide +kernel
theorem dL_law_694 : decode code 694 = .ok (.aload_n 0, 1) := by decide +kernel
theorem dL_law_695 : decode code 695 = .ok (.iload_n 3, 1) := by decide +kernel
theorem dL_law_696 : decode code 696 = .ok (.iconst 1, 1) := by decide +kernel
theorem dL_law_697 : decode code 697 = .ok (.iadd, 1) := by decide +kernel
theorem dL_law_698 : decode code 698 = .ok (.iaload, 1) := by decide +kernel
theorem dL_law_699 : decode code 699 = .ok (.aload_n 0, 1) := by decide +kernel
theorem dL_law_700 : decode code 700 = .ok (.iload_n 3, 1) := by decide +kernel
theorem dL_law_701 : decode code 701 = .ok (.iconst 2, 1) := by decide +kernel
theorem dL_law_702 : decode code 702 = .ok (.iadd, 1) := by decide +kernel
theorem dL_law_703 : decode code 703 = .ok (.iaload, 1) := by decide +kernel
theorem dL_law_704 : decode code 704 = .ok (.aload_n 0, 1) := by decide +kernel
theorem dL_law_705 : decode code 705 = .ok (.iload_n 3, 1) := by decide +kernel
theorem dL_law_706 : decode code 706 = .ok (.iconst 3, 1) := by decide +kernel
theorem dL_law_707 : decode code 707 = .ok (.iadd, 1) := by decide +kernel
theorem dL_law_708 : decode code 708 = .ok (.iaload, 1) := by decide +kernel
theorem dL_law_709 : decode code 709 = .ok (.invokevirtual 84, 3) := by decide +kernel
theorem dL_law_712 : decode code 712 = .ok (.if_icmp .eq 421, 3) := by decide +kernel
theorem dL_law_715 : decode code 715 = .ok (.iconst 0, 1) := by decide +kernel
theorem dL_law_716 : decode code 716 = .ok (.ireturn, 1) := by decide +kernel
theorem dL_law_717 : decode code 717 = .ok (.aload_n 1, 1) := by decide +kernel
theorem dL_law_718 : decode code 718 = .ok (.aload_n 0, 1) := by decide +kernel
theorem dL_law_719 : decode code 719 = .ok (.iload_n 3, 1) := by decide +kernel
theorem dL_law_720 : decode code 720 = .ok (.iconst 1, 1) := by decide +kernel
theorem dL_law_721 : decode code 721 = .ok (.iadd, 1) := by decide +kernel
theorem dL_law_722 : decode code 722 = .ok (.iaload, 1) := by decide +kernel
theorem dL_law_723 : decode code 723 = .ok (.invokevirtual 85, 3) := by decide +kernel
theorem dL_law_726 : decode code 726 = .ok (.aload_n 2, 1) := by decide +kernel
theorem dL_law_727 : decode code 727 = .ok (.aload_n 0, 1) := by decide +kernel
theorem dL_law_728 : decode code 728 = .ok (.iload_n 3, 1) := by decide +kernel
theorem dL_law_729 : decode code 729 = .ok (.iconst 1, 1) := by decide +kernel
theorem dL_law_730 : decode code 730 = .ok (.iadd, 1) := by decide +kernel
theorem dL_law_731 : decode code 731 = .ok (.iaload, 1) := by decide +kernel
theorem dL_law_732 : decode code 732 = .ok (.invokevirtual 88, 3) := by decide +kernel
theorem dL_law_735 : decode code 735 = .ok (.if_icmp .eq 398, 3) := by decide +kernel
theorem dL_law_738 : decode code 738 = .ok (.iconst 0, 1) := by decide +kernel
theorem dL_law_739 : decode code 739 = .ok (.ireturn, 1) := by decide +kernel
theorem dL_law_740 : decode code 740 = .ok (.aload_n 1, 1) := by decide +kernel
theorem dL_law_741 : decode code 741 = .ok (.aload_n 0, 1) := by decide +kernel
theorem dL_law_742 : decode code 742 = .ok (.iload_n 3, 1) := by decide +kernel
theorem dL_law_743 : decode code 743 = .ok (.iconst 1, 1) := by decide +kernel
theorem dL_law_744 : decode code 744 = .ok (.iadd, 1) := by decide +kernel
theorem dL_law_745 : decode code 745 = .ok (.iaload, 1) := by decide +kernel
theorem dL_law_746 : decode code 746 = .ok (.invokevirtual 89, 3) := by decide +kernel
theorem dL_law_749 : decode code 749 = .ok (.aload_n 2, 1) := by decide +kernel
theorem dL_law_750 : decode code 750 = .ok (.aload_n 0, 1) := by decide +kernel
theorem dL_law_751 : decode code 751 = .ok (.iload_n 3, 1) := by decide +kernel
theorem dL_law_752 : decode code 752 = .ok (.iconst 1, 1) := by decide +kernel
theorem dL_law_753 : decode code 753 = .ok (.iadd, 1) := by decide +kernel
theorem dL_law_754 : decode code 754 = .ok (.iaload, 1) := by decide +kernel
theorem dL_law_755 : decode code 755 = .ok (.invokevirtual 92, 3) := by decide +kernel
theorem dL_law_758 : decode code 758 = .ok (.if_icmp .eq 375, 3) := by decide +kernel
theorem dL_law_761 : decode code 761 = .ok (.iconst 0, 1) := by decide +kernel
theorem dL_law_762 : decode code 762 = .ok (.ireturn, 1) := by decide +kernel
theorem dL_law_763 : decode code 763 = .ok (.aload_n 1, 1) := by decide +kernel
theorem dL_law_764 : decode code 764 = .ok (.aload_n 0, 1) := by decide +kernel
theorem dL_law_765 : decode code 765 = .ok (.iload_n 3, 1) := by decide +kernel
theorem dL_law_766 : decode code 766 = .ok (.iconst 1, 1) := by decide +kernel
theorem dL_law_767 : decode code 767 = .ok (.iadd, 1) := by decide +kernel
theorem dL_law_768 : decode code 768 = .ok (.iaload, 1) := by decide +kernel
theorem dL_law_769 : decode code 769 = .ok (.aload_n 0, 1) := by decide +kernel
theorem dL_law_770 : decode code 770 = .ok (.iload_n 3, 1) := by decide +kernel
theorem dL_law_771 : decode code 771 = .ok (.iconst 2, 1) := by decide +kernel
theorem dL_law_772 : decode code 772 = .ok (.iadd, 1) := by decide +kernel
theorem dL_law_773 : decode code 773 = .ok (.iaload, 1) := by decide +kernel
theorem dL_law_774 : decode code 774 = .ok (.invokevirtual 93, 3) := by decide +kernel
theorem dL_law_777 : decode code 777 = .ok (.aload_n 2, 1) := by decide +kernel
theorem dL_law_778 : decode code 778 = .ok (.aload_n 0, 1) := by decide +kernel
theorem dL_law_779 : decode code 779 = .ok (.iload_n 3, 1) := by decide +kernel
theorem dL_law_780 : decode code 780 = .ok (.iconst 1, 1) := by decide +kernel
theorem dL_law_781 : decode code 781 = .ok (.iadd, 1) := by decide +kernel
theorem dL_law_782 : decode code 782 = .ok (.iaload, 1) := by decide +kernel
theorem dL_law_783 : decode code 783 = .ok (.aload_n 0, 1) := by decide +kernel
theorem dL_law_784 : decode code 784 = .ok (.iload_n 3, 1) := by decide +kernel
theorem dL_law_785 : decode code 785 = .ok (.iconst 2, 1) := by decide +kernel
theorem dL_law_786 : decode code 786 = .ok (.iadd, 1) := by decide +kernel
theorem dL_law_787 : decode code 787 = .ok (.iaload, 1) := by decide +kernel
theorem dL_law_788 : decode code 788 = .ok (.invokevirtual 96, 3) := by decide +kernel
theorem dL_law_791 : decode code 791 = .ok (.if_icmp .eq 342, 3) := by decide +kernel
theorem dL_law_794 : decode code 794 = .ok (.iconst 0, 1) := by decide +kernel
theorem dL_law_795 : decode code 795 = .ok (.ireturn, 1) := by decide +kernel
theorem dL_law_796 : decode code 796 = .ok (.aload_n 1, 1) := by decide +kernel
theorem dL_law_797 : decode code 797 = .ok (.aload_n 0, 1) := by decide +kernel
theorem dL_law_798 : decode code 798 = .ok (.iload_n 3, 1) := by decide +kernel
theorem dL_law_799 : decode code 799 = .ok (.iconst 1, 1) := by decide +kernel
theorem dL_law_800 : decode code 800 = .ok (.iadd, 1) := by decide +kernel
theorem dL_law_801 : decode code 801 = .ok (.iaload, 1) := by decide +kernel
theorem dL_law_802 : decode code 802 = .ok (.aload_n 0, 1) := by decide +kernel
theorem dL_law_803 : decode code 803 = .ok (.iload_n 3, 1) := by decide +kernel
theorem dL_law_804 : decode code 804 = .ok (.iconst 2, 1) := by decide +kernel
theorem dL_law_805 : decode code 805 = .ok (.iadd, 1) := by decide +kernel
theorem dL_law_806 : decode code 806 = .ok (.iaload, 1) := by decide +kernel
theorem dL_law_807 : decode code 807 = .ok (.invokevirtual 97, 3) := by decide +kernel
theorem dL_law_810 : decode code 810 = .ok (.aload_n 2, 1) := by decide +kernel
theorem dL_law_811 : decode code 811 = .ok (.aload_n 0, 1) := by decide +kernel
theorem dL_law_812 : decode code 812 = .ok (.iload_n 3, 1) := by decide +kernel
theorem dL_law_813 : decode code 813 = .ok (.iconst 1, 1) := by decide +kernel
theorem dL_law_814 : decode code 814 = .ok (.iadd, 1) := by decide +kernel
theorem dL_law_815 : decode code 815 = .ok (.iaload, 1) := by decide +kernel
theorem dL_law_816 : decode code 816 = .ok (.aload_n 0, 1) := by decide +kernel
theorem dL_law_817 : decode code 817 = .ok (.iload_n 3, 1) := by decide +kernel
theorem dL_law_818 : decode code 818 = .ok (.iconst 2, 1) := by decide +kernel
theorem dL_law_819 : decode code 819 = .ok (.iadd, 1) := by decide +kernel
theorem dL_law_820 : decode code 820 = .ok (.iaload, 1) := by decide +kernel
theorem dL_law_821 : decode code 821 = .ok (.invokevirtual 100, 3) := by decide +kernel
theorem dL_law_824 : decode code 824 = .ok (.if_icmp .eq 309, 3) := by decide +kernel
theorem dL_law_827 : decode code 827 = .ok (.iconst 0, 1) := by decide +kernel
theorem dL_law_828 : decode code 828 = .ok (.ireturn, 1) := by decide +kernel
theorem dL_law_829 : decode code 829 = .ok (.aload_n 1, 1) := by decide +kernel
theorem dL_law_830 : decode code 830 = .ok (.aload_n 0, 1) := by decide +kernel
theorem dL_law_831 : decode code 831 = .ok (.iload_n 3, 1) := by decide +kernel
theorem dL_law_832 : decode code 832 = .ok (.iconst 1, 1) := by decide +kernel
theorem dL_law_833 : decode code 833 = .ok (.iadd, 1) := by decide +kernel
theorem dL_law_834 : decode code 834 = .ok (.iaload, 1) := by decide +kernel
theorem dL_law_835 : decode code 835 = .ok (.invokevirtual 101, 3) := by decide +kernel
theorem dL_law_838 : decode code 838 = .ok (.aload_n 2, 1) := by decide +kernel
theorem dL_law_839 : decode code 839 = .ok (.aload_n 0, 1) := by decide +kernel
theorem dL_law_840 : decode code 840 = .ok (.iload_n 3, 1) := by decide +kernel
theorem dL_law_841 : decode code 841 = .ok (.iconst 1, 1) := by decide +kernel
theorem dL_law_842 : decode code 842 = .ok (.iadd, 1) := by decide +kernel
theorem dL_law_843 : decode code 843 = .ok (.iaload, 1) := by decide +kernel
theorem dL_law_844 : decode code 844 = .ok (.invokevirtual 105, 3) := by decide +kernel
theorem dL_law_847 : decode code 847 = .ok (.lcmp, 1) := by decide +kernel
theorem dL_law_848 : decode code 848 = .ok (.ifCond .eq 285, 3) := by decide +kernel
theorem dL_law_851 : decode code 851 = .ok (.iconst 0, 1) := by decide +kernel
theorem dL_law_852 : decode code 852 = .ok (.ireturn, 1) := by decide +kernel
theorem dL_law_853 : decode code 853 = .ok (.aload_n 1, 1) := by decide +kernel
theorem dL_law_854 : decode code 854 = .ok (.invokevirtual 106, 3) := by decide +kernel
theorem dL_law_857 : decode code 857 = .ok (.aload_n 2, 1) := by decide +kernel
theorem dL_law_858 : decode code 858 = .ok (.invokevirtual 110, 3) := by decide +kernel
theorem dL_law_861 : decode code 861 = .ok (.if_icmp .eq 272, 3) := by decide +kernel
theorem dL_law_864 : decode code 864 = .ok (.iconst 0, 1) := by decide +kernel
theorem dL_law_865 : decode code 865 = .ok (.ireturn, 1) := by decide +kernel
theorem dL_law_866 : decode code 866 = .ok (.aload_n 1, 1) := by decide +kernel
theorem dL_law_867 : decode code 867 = .ok (.invokevirtual 111, 3) := by decide +kernel
theorem dL_law_870 : decode code 870 = .ok (.aload_n 2, 1) := by decide +kernel
theorem dL_law_871 : decode code 871 = .ok (.invokevirtual 114, 3) := by decide +kernel
theorem dL_law_874 : decode code 874 = .ok (.if_icmp .eq 259, 3) := by decide +kernel
theorem dL_law_877 : decode code 877 = .ok (.iconst 0, 1) := by decide +kernel
theorem dL_law_878 : decode code 878 = .ok (.ireturn, 1) := by decide +kernel
theorem dL_law_879 : decode code 879 = .ok (.aload_n 1, 1) := by decide +kernel
theorem dL_law_880 : decode code 880 = .ok (.aload_n 0, 1) := by decide +kernel
theorem dL_law_881 : decode code 881 = .ok (.iload_n 3, 1) := by decide +kernel
theorem dL_law_882 : decode code 882 = .ok (.iconst 1, 1) := by decide +kernel
theorem dL_law_883 : decode code 883 = .ok (.iadd, 1) := by decide +kernel
theorem dL_law_884 : decode code 884 = .ok (.iaload, 1) := by decide +kernel
theorem dL_law_885 : decode code 885 = .ok (.aload_n 0, 1) := by decide +kernel
theorem dL_law_886 : decode code 886 = .ok (.iload_n 3, 1) := by decide +kernel
theorem dL_law_887 : decode code 887 = .ok (.iconst 2, 1) := by decide +kernel
theorem dL_law_888 : decode code 888 = .ok (.iadd, 1) := by decide +kernel
theorem dL_law_889 : decode code 889 = .ok (.iaload, 1) := by decide +kernel
theorem dL_law_890 : decode code 890 = .ok (.invokevirtual 115, 3) := by decide +kernel
theorem dL_law_893 : decode code 893 = .ok (.aload_n 2, 1) := by decide +kernel
theorem dL_law_894 : decode code 894 = .ok (.aload_n 0, 1) := by decide +kernel
theorem dL_law_895 : decode code 895 = .ok (.iload_n 3, 1) := by decide +kernel
theorem dL_law_896 : decode code 896 = .ok (.iconst 1, 1) := by decide +kernel
theorem dL_law_897 : decode code 897 = .ok (.iadd, 1) := by decide +kernel
theorem dL_law_898 : decode code 898 = .ok (.iaload, 1) := by decide +kernel
theorem dL_law_899 : decode code 899 = .ok (.aload_n 0, 1) := by decide +kernel
theorem dL_law_900 : decode code 900 = .ok (.iload_n 3, 1) := by decide +kernel
theorem dL_law_901 : decode code 901 = .ok (.iconst 2, 1) := by decide +kernel
theorem dL_law_902 : decode code 902 = .ok (.iadd, 1) := by decide +kernel
theorem dL_law_903 : decode code 903 = .ok (.iaload, 1) := by decide +kernel
theorem dL_law_904 : decode code 904 = .ok (.invokevirtual 118, 3) := by decide +kernel
theorem dL_law_907 : decode code 907 = .ok (.if_icmp .eq 226, 3) := by decide +kernel
theorem dL_law_910 : decode code 910 = .ok (.iconst 0, 1) := by decide +kernel
theorem dL_law_911 : decode code 911 = .ok (.ireturn, 1) := by decide +kernel
theorem dL_law_912 : decode code 912 = .ok (.aload_n 1, 1) := by decide +kernel
theorem dL_law_913 : decode code 913 = .ok (.aload_n 0, 1) := by decide +kernel
theorem dL_law_914 : decode code 914 = .ok (.iload_n 3, 1) := by decide +kernel
theorem dL_law_915 : decode code 915 = .ok (.iconst 1, 1) := by decide +kernel
theorem dL_law_916 : decode code 916 = .ok (.iadd, 1) := by decide +kernel
theorem dL_law_917 : decode code 917 = .ok (.iaload, 1) := by decide +kernel
theorem dL_law_918 : decode code 918 = .ok (.aload_n 0, 1) := by decide +kernel
theorem dL_law_919 : decode code 919 = .ok (.iload_n 3, 1) := by decide +kernel
theorem dL_law_920 : decode code 920 = .ok (.iconst 2, 1) := by decide +kernel
theorem dL_law_921 : decode code 921 = .ok (.iadd, 1) := by decide +kernel
theorem dL_law_922 : decode code 922 = .ok (.iaload, 1) := by decide +kernel
theorem dL_law_923 : decode code 923 = .ok (.aload_n 0, 1) := by decide +kernel
theorem dL_law_924 : decode code 924 = .ok (.iload_n 3, 1) := by decide +kernel
theorem dL_law_925 : decode code 925 = .ok (.iconst 3, 1) := by decide +kernel
theorem dL_law_926 : decode code 926 = .ok (.iadd, 1) := by decide +kernel
theorem dL_law_927 : decode code 927 = .ok (.iaload, 1) := by decide +kernel
theorem dL_law_928 : decode code 928 = .ok (.aload_n 0, 1) := by decide +kernel
theorem dL_law_929 : decode code 929 = .ok (.iload_n 3, 1) := by decide +kernel
theorem dL_law_930 : decode code 930 = .ok (.iconst 4, 1) := by decide +kernel
theorem dL_law_931 : decode code 931 = .ok (.iadd, 1) := by decide +kernel
theorem dL_law_932 : decode code 932 = .ok (.iaload, 1) := by decide +kernel
theorem dL_law_933 : decode code 933 = .ok (.invokevirtual 119, 3) := by decide +kernel
theorem dL_law_936 : decode code 936 = .ok (.aload_n 2, 1) := by decide +kernel
theorem dL_law_937 : decode code 937 = .ok (.aload_n 0, 1) := by decide +kernel
theorem dL_law_938 : decode code 938 = .ok (.iload_n 3, 1) := by decide +kernel
theorem dL_law_939 : decode code 939 = .ok (.iconst 1, 1) := by decide +kernel
theorem dL_law_940 : decode code 940 = .ok (.iadd, 1) := by decide +kernel
theorem dL_law_941 : decode code 941 = .ok (.iaload, 1) := by decide +kernel
theorem dL_law_942 : decode code 942 = .ok (.aload_n 0, 1) := by decide +kernel
theorem dL_law_943 : decode code 943 = .ok (.iload_n 3, 1) := by decide +kernel
theorem dL_law_944 : decode code 944 = .ok (.iconst 2, 1) := by decide +kernel
theorem dL_law_945 : decode code 945 = .ok (.iadd, 1) := by decide +kernel
theorem dL_law_946 : decode code 946 = .ok (.iaload, 1) := by decide +kernel
theorem dL_law_947 : decode code 947 = .ok (.aload_n 0, 1) := by decide +kernel
theorem dL_law_948 : decode code 948 = .ok (.iload_n 3, 1) := by decide +kernel
theorem dL_law_949 : decode code 949 = .ok (.iconst 3, 1) := by decide +kernel
theorem dL_law_950 : decode code 950 = .ok (.iadd, 1) := by decide +kernel
theorem dL_law_951 : decode code 951 = .ok (.iaload, 1) := by decide +kernel
theorem dL_law_952 : decode code 952 = .ok (.aload_n 0, 1) := by decide +kernel
theorem dL_law_953 : decode code 953 = .ok (.iload_n 3, 1) := by decide +kernel
theorem dL_law_954 : decode code 954 = .ok (.iconst 4, 1) := by decide +kernel
theorem dL_law_955 : decode code 955 = .ok (.iadd, 1) := by decide +kernel
theorem dL_law_956 : decode code 956 = .ok (.iaload, 1) := by decide +kernel
theorem dL_law_957 : decode code 957 = .ok (.invokevirtual 123, 3) := by decide +kernel
theorem dL_law_960 : decode code 960 = .ok (.if_icmp .eq 173, 3) := by decide +kernel
theorem dL_law_963 : decode code 963 = .ok (.iconst 0, 1) := by decide +kernel
theorem dL_law_964 : decode code 964 = .ok (.ireturn, 1) := by decide +kernel
theorem dL_law_965 : decode code 965 = .ok (.aload_n 1, 1) := by decide +kernel
theorem dL_law_966 : decode code 966 = .ok (.aload_n 0, 1) := by decide +kernel
theorem dL_law_967 : decode code 967 = .ok (.iload_n 3, 1) := by decide +kernel
theorem dL_law_968 : decode code 968 = .ok (.iconst 1, 1) := by decide +kernel
theorem dL_law_969 : decode code 969 = .ok (.iadd, 1) := by decide +kernel
theorem dL_law_970 : decode code 970 = .ok (.iaload, 1) := by decide +kernel
theorem dL_law_971 : decode code 971 = .ok (.aload_n 0, 1) := by decide +kernel
theorem dL_law_972 : decode code 972 = .ok (.iload_n 3, 1) := by decide +kernel
theorem dL_law_973 : decode code 973 = .ok (.iconst 2, 1) := by decide +kernel
theorem dL_law_974 : decode code 974 = .ok (.iadd, 1) := by decide +kernel
theorem dL_law_975 : decode code 975 = .ok (.iaload, 1) := by decide +kernel
theorem dL_law_976 : decode code 976 = .ok (.invokevirtual 124, 3) := by decide +kernel
theorem dL_law_979 : decode code 979 = .ok (.aload_n 2, 1) := by decide +kernel
theorem dL_law_980 : decode code 980 = .ok (.aload_n 0, 1) := by decide +kernel
theorem dL_law_981 : decode code 981 = .ok (.iload_n 3, 1) := by decide +kernel
theorem dL_law_982 : decode code 982 = .ok (.iconst 1, 1) := by decide +kernel
theorem dL_law_983 : decode code 983 = .ok (.iadd, 1) := by decide +kernel
theorem dL_law_984 : decode code 984 = .ok (.iaload, 1) := by decide +kernel
theorem dL_law_985 : decode code 985 = .ok (.aload_n 0, 1) := by decide +kernel
theorem dL_law_986 : decode code 986 = .ok (.iload_n 3, 1) := by decide +kernel
theorem dL_law_987 : decode code 987 = .ok (.iconst 2, 1) := by decide +kernel
theorem dL_law_988 : decode code 988 = .ok (.iadd, 1) := by decide +kernel
theorem dL_law_989 : decode code 989 = .ok (.iaload, 1) := by decide +kernel
theorem dL_law_990 : decode code 990 = .ok (.invokevirtual 127, 3) := by decide +kernel
theorem dL_law_993 : decode code 993 = .ok (.if_icmp .eq 140, 3) := by decide +kernel
theorem dL_law_996 : decode code 996 = .ok (.iconst 0, 1) := by decide +kernel
theorem dL_law_997 : decode code 997 = .ok (.ireturn, 1) := by decide +kernel
theorem dL_law_998 : decode code 998 = .ok (.aload_n 1, 1) := by decide +kernel
theorem dL_law_999 : decode code 999 = .ok (.invokevirtual 128, 3) := by decide +kernel
theorem dL_law_1002 : decode code 1002 = .ok (.aload_n 2, 1) := by decide +kernel
theorem dL_law_1003 : decode code 1003 = .ok (.invokevirtual 131, 3) := by decide +kernel
theorem dL_law_1006 : decode code 1006 = .ok (.if_icmp .eq 127, 3) := by decide +kernel
theorem dL_law_1009 : decode code 1009 = .ok (.iconst 0, 1) := by decide +kernel
theorem dL_law_1010 : decode code 1010 = .ok (.ireturn, 1) := by decide +kernel
theorem dL_law_1011 : decode code 1011 = .ok (.aload_n 1, 1) := by decide +kernel
theorem dL_law_1012 : decode code 1012 = .ok (.aload_n 0, 1) := by decide +kernel
theorem dL_law_1013 : decode code 1013 = .ok (.iload_n 3, 1) := by decide +kernel
theorem dL_law_1014 : decode code 1014 = .ok (.iconst 1, 1) := by decide +kernel
theorem dL_law_1015 : decode code 1015 = .ok (.iadd, 1) := by decide +kernel
theorem dL_law_1016 : decode code 1016 = .ok (.iaload, 1) := by decide +kernel
theorem dL_law_1017 : decode code 1017 = .ok (.aload_n 0, 1) := by decide +kernel
theorem dL_law_1018 : decode code 1018 = .ok (.iload_n 3, 1) := by decide +kernel
theorem dL_law_1019 : decode code 1019 = .ok (.iconst 2, 1) := by decide +kernel
theorem dL_law_1020 : decode code 1020 = .ok (.iadd, 1) := by decide +kernel
theorem dL_law_1021 : decode code 1021 = .ok (.iaload, 1) := by decide +kernel
theorem dL_law_1022 : decode code 1022 = .ok (.aload_n 0, 1) := by decide +kernel
theorem dL_law_1023 : decode code 1023 = .ok (.iload_n 3, 1) := by decide +kernel
theorem dL_law_1024 : decode code 1024 = .ok (.iconst 3, 1) := by decide +kernel
theorem dL_law_1025 : decode code 1025 = .ok (.iadd, 1) := by decide +kernel
theorem dL_law_1026 : decode code 1026 = .ok (.iaload, 1) := by decide +kernel
theorem dL_law_1027 : decode code 1027 = .ok (.aload_n 0, 1) := by decide +kernel
theorem dL_law_1028 : decode code 1028 = .ok (.iload_n 3, 1) := by decide +kernel
theorem dL_law_1029 : decode code 1029 = .ok (.iconst 4, 1) := by decide +kernel
theorem dL_law_1030 : decode code 1030 = .ok (.iadd, 1) := by decide +kernel
theorem dL_law_1031 : decode code 1031 = .ok (.iaload, 1) := by decide +kernel
theorem dL_law_1032 : decode code 1032 = .ok (.aload_n 0, 1) := by decide +kernel
theorem dL_law_1033 : decode code 1033 = .ok (.iload_n 3, 1) := by decide +kernel
theorem dL_law_1034 : decode code 1034 = .ok (.iconst 5, 1) := by decide +kernel
theorem dL_law_1035 : decode code 1035 = .ok (.iadd, 1) := by decide +kernel
theorem dL_law_1036 : decode code 1036 = .ok (.iaload, 1) := by decide +kernel
theorem dL_law_1037 : decode code 1037 = .ok (.invokevirtual 132, 3) := by decide +kernel
theorem dL_law_1040 : decode code 1040 = .ok (.aload_n 2, 1) := by decide +kernel
theorem dL_law_1041 : decode code 1041 = .ok (.aload_n 0, 1) := by decide +kernel
theorem dL_law_1042 : decode code 1042 = .ok (.iload_n 3, 1) := by decide +kernel
theorem dL_law_1043 : decode code 1043 = .ok (.iconst 1, 1) := by decide +kernel
theorem dL_law_1044 : decode code 1044 = .ok (.iadd, 1) := by decide +kernel
theorem dL_law_1045 : decode code 1045 = .ok (.iaload, 1) := by decide +kernel
theorem dL_law_1046 : decode code 1046 = .ok (.aload_n 0, 1) := by decide +kernel
theorem dL_law_1047 : decode code 1047 = .ok (.iload_n 3, 1) := by decide +kernel
theorem dL_law_1048 : decode code 1048 = .ok (.iconst 2, 1) := by decide +kernel
theorem dL_law_1049 : decode code 1049 = .ok (.iadd, 1) := by decide +kernel
theorem dL_law_1050 : decode code 1050 = .ok (.iaload, 1) := by decide +kernel
theorem dL_law_1051 : decode code 1051 = .ok (.aload_n 0, 1) := by decide +kernel
theorem dL_law_1052 : decode code 1052 = .ok (.iload_n 3, 1) := by decide +kernel
theorem dL_law_1053 : decode code 1053 = .ok (.iconst 3, 1) := by decide +kernel
theorem dL_law_1054 : decode code 1054 = .ok (.iadd, 1) := by decide +kernel
theorem dL_law_1055 : decode code 1055 = .ok (.iaload, 1) := by decide +kernel
theorem dL_law_1056 : decode code 1056 = .ok (.aload_n 0, 1) := by decide +kernel
theorem dL_law_1057 : decode code 1057 = .ok (.iload_n 3, 1) := by decide +kernel
theorem dL_law_1058 : decode code 1058 = .ok (.iconst 4, 1) := by decide +kernel
theorem dL_law_1059 : decode code 1059 = .ok (.iadd, 1) := by decide +kernel
theorem dL_law_1060 : decode code 1060 = .ok (.iaload, 1) := by decide +kernel
theorem dL_law_1061 : decode code 1061 = .ok (.aload_n 0, 1) := by decide +kernel
theorem dL_law_1062 : decode code 1062 = .ok (.iload_n 3, 1) := by decide +kernel
theorem dL_law_1063 : decode code 1063 = .ok (.iconst 5, 1) := by decide +kernel
theorem dL_law_1064 : decode code 1064 = .ok (.iadd, 1) := by decide +kernel
theorem dL_law_1065 : decode code 1065 = .ok (.iaload, 1) := by decide +kernel
theorem dL_law_1066 : decode code 1066 = .ok (.invokevirtual 135, 3) := by decide +kernel
theorem dL_law_1069 : decode code 1069 = .ok (.if_icmp .eq 64, 3) := by decide +kernel
theorem dL_law_1072 : decode code 1072 = .ok (.iconst 0, 1) := by decide +kernel
theorem dL_law_1073 : decode code 1073 = .ok (.ireturn, 1) := by decide +kernel
theorem dL_law_1074 : decode code 1074 = .ok (.aload_n 1, 1) := by decide +kernel
theorem dL_law_1075 : decode code 1075 = .ok (.invokevirtual 136, 3) := by decide +kernel
theorem dL_law_1078 : decode code 1078 = .ok (.aload_n 2, 1) := by decide +kernel
theorem dL_law_1079 : decode code 1079 = .ok (.invokevirtual 139, 3) := by decide +kernel
theorem dL_law_1082 : decode code 1082 = .ok (.if_icmp .eq 51, 3) := by decide +kernel
theorem dL_law_1085 : decode code 1085 = .ok (.iconst 0, 1) := by decide +kernel
theorem dL_law_1086 : decode code 1086 = .ok (.ireturn, 1) := by decide +kernel
theorem dL_law_1087 : decode code 1087 = .ok (.aload_n 1, 1) := by decide +kernel
theorem dL_law_1088 : decode code 1088 = .ok (.aload_n 0, 1) := by decide +kernel
theorem dL_law_1089 : decode code 1089 = .ok (.iload_n 3, 1) := by decide +kernel
theorem dL_law_1090 : decode code 1090 = .ok (.iconst 1, 1) := by decide +kernel
theorem dL_law_1091 : decode code 1091 = .ok (.iadd, 1) := by decide +kernel
theorem dL_law_1092 : decode code 1092 = .ok (.iaload, 1) := by decide +kernel
theorem dL_law_1093 : decode code 1093 = .ok (.aload_n 0, 1) := by decide +kernel
theorem dL_law_1094 : decode code 1094 = .ok (.iload_n 3, 1) := by decide +kernel
theorem dL_law_1095 : decode code 1095 = .ok (.iconst 2, 1) := by decide +kernel
theorem dL_law_1096 : decode code 1096 = .ok (.iadd, 1) := by decide +kernel
theorem dL_law_1097 : decode code 1097 = .ok (.iaload, 1) := by decide +kernel
theorem dL_law_1098 : decode code 1098 = .ok (.invokevirtual 140, 3) := by decide +kernel
theorem dL_law_1101 : decode code 1101 = .ok (.aload_n 2, 1) := by decide +kernel
theorem dL_law_1102 : decode code 1102 = .ok (.aload_n 0, 1) := by decide +kernel
theorem dL_law_1103 : decode code 1103 = .ok (.iload_n 3, 1) := by decide +kernel
theorem dL_law_1104 : decode code 1104 = .ok (.iconst 1, 1) := by decide +kernel
theorem dL_law_1105 : decode code 1105 = .ok (.iadd, 1) := by decide +kernel
theorem dL_law_1106 : decode code 1106 = .ok (.iaload, 1) := by decide +kernel
theorem dL_law_1107 : decode code 1107 = .ok (.aload_n 0, 1) := by decide +kernel
theorem dL_law_1108 : decode code 1108 = .ok (.iload_n 3, 1) := by decide +kernel
theorem dL_law_1109 : decode code 1109 = .ok (.iconst 2, 1) := by decide +kernel
theorem dL_law_1110 : decode code 1110 = .ok (.iadd, 1) := by decide +kernel
theorem dL_law_1111 : decode code 1111 = .ok (.iaload, 1) := by decide +kernel
theorem dL_law_1112 : decode code 1112 = .ok (.invokevirtual 143, 3) := by decide +kernel
theorem dL_law_1115 : decode code 1115 = .ok (.if_icmp .eq 18, 3) := by decide +kernel
theorem dL_law_1118 : decode code 1118 = .ok (.iconst 0, 1) := by decide +kernel
theorem dL_law_1119 : decode code 1119 = .ok (.ireturn, 1) := by decide +kernel
theorem dL_law_1120 : decode code 1120 = .ok (.aload_n 1, 1) := by decide +kernel
theorem dL_law_1121 : decode code 1121 = .ok (.invokevirtual 144, 3) := by decide +kernel
theorem dL_law_1124 : decode code 1124 = .ok (.aload_n 2, 1) := by decide +kernel
theorem dL_law_1125 : decode code 1125 = .ok (.invokevirtual 147, 3) := by decide +kernel
theorem dL_law_1128 : decode code 1128 = .ok (.if_icmp .eq 5, 3) := by decide +kernel
theorem dL_law_1131 : decode code 1131 = .ok (.iconst 0, 1) := by decide +kernel
theorem dL_law_1132 : decode code 1132 = .ok (.ireturn, 1) := by decide +kernel
theorem dL_law_1133 : decode code 1133 = .ok (.iinc 3 6, 3) := by decide +kernel
theorem dL_law_1136 : decode code 1136 = .ok (.goto (-1118), 3) := by decide +kernel
theorem dL_law_1139 : decode code 1139 = .ok (.iconst 1, 1) := by decide +kernel
theorem dL_law_1140 : decode code 1140 = .ok (.ireturn, 1) := by decide +kernel
