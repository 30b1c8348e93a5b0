theorem dL_law_0 : decode cL_law 0 = .ok (.new 7, 3) := by decide +kernel
theorem dL_law_3 : decode cL_law 3 = .ok (.dup, 1) := by decide +kernel
theorem dL_law_4 : decode cL_law 4 = .ok (.invokespecial 9, 3) := by decide +kernel
theorem dL_law_7 : decode cL_law 7 = .ok (.astore_n 1, 1) := by decide +kernel
theorem dL_law_8 : decode cL_law 8 = .ok (.new 10, 3) := by decide +kernel
theorem dL_law_11 : decode cL_law 11 = .ok (.dup, 1) := by decide +kernel
theorem dL_law_12 : decode cL_law 12 = .ok (.invokespecial 12, 3) := by decide +kernel
theorem dL_law_15 : decode cL_law 15 = .ok (.astore_n 2, 1) := by decide +kernel
theorem dL_law_16 : decode cL_law 16 = .ok (.iconst 0, 1) := by decide +kernel
theorem dL_law_17 : decode cL_law 17 = .ok (.istore_n 3, 1) := by decide +kernel
theorem dL_law_18 : decode cL_law 18 = .ok (.iload_n 3, 1) := by decide +kernel
theorem dL_law_19 : decode cL_law 19 = .ok (.aload_n 0, 1) := by decide +kernel
theorem dL_law_20 : decode cL_law 20 = .ok (.arraylength, 1) := by decide +kernel
theorem dL_law_21 : decode cL_law 21 = .ok (.bipush 6, 2) := by decide +kernel
theorem dL_law_23 : decode cL_law 23 = .ok (.isub, 1) := by decide +kernel
theorem dL_law_24 : decode cL_law 24 = .ok (.if_icmp .gt 953, 3) := by decide +kernel
theorem dL_law_27 : decode cL_law 27 = .ok (.aload_n 0, 1) := by decide +kernel
theorem dL_law_28 : decode cL_law 28 = .ok (.iload_n 3, 1) := by decide +kernel
theorem dL_law_29 : decode cL_law 29 = .ok (.iaload, 1) := by decide +kernel
theorem dL_law_30 : decode cL_law 30 = .ok (.bipush 31, 2) := by decide +kernel
theorem dL_law_32 : decode cL_law 32 = .ok (.iand, 1) := by decide +kernel
theorem dL_law_33 : decode cL_law 33 = .ok (.tableswitch 938 0 30 #[139, 162, 175, 188, 211, 244, 267, 290, 323, 346, 369, 392, 415, 438, 481, 514, 547, 570, 593, 606, 629, 692, 725, 748, 771, 784, 843, 856, 869, 892, 915], 139) := by decide +kernel
theorem dL_law_172 : decode cL_law 172 = .ok (.aload_n 1, 1) := by decide +kernel
theorem dL_law_173 : decode cL_law 173 = .ok (.aload_n 0, 1) := by decide +kernel
theorem dL_law_174 : decode cL_law 174 = .ok (.iload_n 3, 1) := by decide +kernel
theorem dL_law_175 : decode cL_law 175 = .ok (.iconst 1, 1) := by decide +kernel
theorem dL_law_176 : decode cL_law 176 = .ok (.iadd, 1) := by decide +kernel
theorem dL_law_177 : decode cL_law 177 = .ok (.iaload, 1) := by decide +kernel
theorem dL_law_178 : decode cL_law 178 = .ok (.invokevirtual 13, 3) := by decide +kernel
theorem dL_law_181 : decode cL_law 181 = .ok (.aload_n 2, 1) := by decide +kernel
theorem dL_law_182 : decode cL_law 182 = .ok (.aload_n 0, 1) := by decide +kernel
theorem dL_law_183 : decode cL_law 183 = .ok (.iload_n 3, 1) := by decide +kernel
theorem dL_law_184 : decode cL_law 184 = .ok (.iconst 1, 1) := by decide +kernel
theorem dL_law_185 : decode cL_law 185 = .ok (.iadd, 1) := by decide +kernel
theorem dL_law_186 : decode cL_law 186 = .ok (.iaload, 1) := by decide +kernel
theorem dL_law_187 : decode cL_law 187 = .ok (.invokevirtual 17, 3) := by decide +kernel
theorem dL_law_190 : decode cL_law 190 = .ok (.if_icmp .eq 781, 3) := by decide +kernel
theorem dL_law_193 : decode cL_law 193 = .ok (.iconst 0, 1) := by decide +kernel
theorem dL_law_194 : decode cL_law 194 = .ok (.ireturn, 1) := by decide +kernel
theorem dL_law_195 : decode cL_law 195 = .ok (.aload_n 1, 1) := by decide +kernel
theorem dL_law_196 : decode cL_law 196 = .ok (.invokevirtual 18, 3) := by decide +kernel
theorem dL_law_199 : decode cL_law 199 = .ok (.aload_n 2, 1) := by decide +kernel
theorem dL_law_200 : decode cL_law 200 = .ok (.invokevirtual 22, 3) := by decide +kernel
theorem dL_law_203 : decode cL_law 203 = .ok (.if_icmp .eq 768, 3) := by decide +kernel
theorem dL_law_206 : decode cL_law 206 = .ok (.iconst 0, 1) := by decide +kernel
theorem dL_law_207 : decode cL_law 207 = .ok (.ireturn, 1) := by decide +kernel
theorem dL_law_208 : decode cL_law 208 = .ok (.aload_n 1, 1) := by decide +kernel
theorem dL_law_209 : decode cL_law 209 = .ok (.invokevirtual 23, 3) := by decide +kernel
theorem dL_law_212 : decode cL_law 212 = .ok (.aload_n 2, 1) := by decide +kernel
theorem dL_law_213 : decode cL_law 213 = .ok (.invokevirtual 26, 3) := by decide +kernel
theorem dL_law_216 : decode cL_law 216 = .ok (.if_icmp .eq 755, 3) := by decide +kernel
theorem dL_law_219 : decode cL_law 219 = .ok (.iconst 0, 1) := by decide +kernel
theorem dL_law_220 : decode cL_law 220 = .ok (.ireturn, 1) := by decide +kernel
theorem dL_law_221 : decode cL_law 221 = .ok (.aload_n 1, 1) := by decide +kernel
theorem dL_law_222 : decode cL_law 222 = .ok (.aload_n 0, 1) := by decide +kernel
theorem dL_law_223 : decode cL_law 223 = .ok (.iload_n 3, 1) := by decide +kernel
theorem dL_law_224 : decode cL_law 224 = .ok (.iconst 1, 1) := by decide +kernel
theorem dL_law_225 : decode cL_law 225 = .ok (.iadd, 1) := by decide +kernel
theorem dL_law_226 : decode cL_law 226 = .ok (.iaload, 1) := by decide +kernel
theorem dL_law_227 : decode cL_law 227 = .ok (.invokevirtual 27, 3) := by decide +kernel
theorem dL_law_230 : decode cL_law 230 = .ok (.aload_n 2, 1) := by decide +kernel
theorem dL_law_231 : decode cL_law 231 = .ok (.aload_n 0, 1) := by decide +kernel
theorem dL_law_232 : decode cL_law 232 = .ok (.iload_n 3, 1) := by decide +kernel
theorem dL_law_233 : decode cL_law 233 = .ok (.iconst 1, 1) := by decide +kernel
theorem dL_law_234 : decode cL_law 234 = .ok (.iadd, 1) := by decide +kernel
theorem dL_law_235 : decode cL_law 235 = .ok (.iaload, 1) := by decide +kernel
theorem dL_law_236 : decode cL_law 236 = .ok (.invokevirtual 30, 3) := by decide +kernel
theorem dL_law_239 : decode cL_law 239 = .ok (.if_icmp .eq 732, 3) := by decide +kernel
theorem dL_law_242 : decode cL_law 242 = .ok (.iconst 0, 1) := by decide +kernel
theorem dL_law_243 : decode cL_law 243 = .ok (.ireturn, 1) := by decide +kernel
theorem dL_law_244 : decode cL_law 244 = .ok (.aload_n 1, 1) := by decide +kernel
theorem dL_law_245 : decode cL_law 245 = .ok (.aload_n 0, 1) := by decide +kernel
theorem dL_law_246 : decode cL_law 246 = .ok (.iload_n 3, 1) := by decide +kernel
theorem dL_law_247 : decode cL_law 247 = .ok (.iconst 1, 1) := by decide +kernel
theorem dL_law_248 : decode cL_law 248 = .ok (.iadd, 1) := by decide +kernel
theorem dL_law_249 : decode cL_law 249 = .ok (.iaload, 1) := by decide +kernel
theorem dL_law_250 : decode cL_law 250 = .ok (.aload_n 0, 1) := by decide +kernel
theorem dL_law_251 : decode cL_law 251 = .ok (.iload_n 3, 1) := by decide +kernel
theorem dL_law_252 : decode cL_law 252 = .ok (.iconst 2, 1) := by decide +kernel
theorem dL_law_253 : decode cL_law 253 = .ok (.iadd, 1) := by decide +kernel
theorem dL_law_254 : decode cL_law 254 = .ok (.iaload, 1) := by decide +kernel
theorem dL_law_255 : decode cL_law 255 = .ok (.invokevirtual 31, 3) := by decide +kernel
theorem dL_law_258 : decode cL_law 258 = .ok (.aload_n 2, 1) := by decide +kernel
theorem dL_law_259 : decode cL_law 259 = .ok (.aload_n 0, 1) := by decide +kernel
theorem dL_law_260 : decode cL_law 260 = .ok (.iload_n 3, 1) := by decide +kernel
theorem dL_law_261 : decode cL_law 261 = .ok (.iconst 1, 1) := by decide +kernel
theorem dL_law_262 : decode cL_law 262 = .ok (.iadd, 1) := by decide +kernel
theorem dL_law_263 : decode cL_law 263 = .ok (.iaload, 1) := by decide +kernel
theorem dL_law_264 : decode cL_law 264 = .ok (.aload_n 0, 1) := by decide +kernel
theorem dL_law_265 : decode cL_law 265 = .ok (.iload_n 3, 1) := by decide +kernel
theorem dL_law_266 : decode cL_law 266 = .ok (.iconst 2, 1) := by decide +kernel
theorem dL_law_267 : decode cL_law 267 = .ok (.iadd, 1) := by decide +kernel
theorem dL_law_268 : decode cL_law 268 = .ok (.iaload, 1) := by decide +kernel
theorem dL_law_269 : decode cL_law 269 = .ok (.invokevirtual 35, 3) := by decide +kernel
theorem dL_law_272 : decode cL_law 272 = .ok (.if_icmp .eq 699, 3) := by decide +kernel
theorem dL_law_275 : decode cL_law 275 = .ok (.iconst 0, 1) := by decide +kernel
theorem dL_law_276 : decode cL_law 276 = .ok (.ireturn, 1) := by decide +kernel
theorem dL_law_277 : decode cL_law 277 = .ok (.aload_n 1, 1) := by decide +kernel
theorem dL_law_278 : decode cL_law 278 = .ok (.aload_n 0, 1) := by decide +kernel
theorem dL_law_279 : decode cL_law 279 = .ok (.iload_n 3, 1) := by decide +kernel
theorem dL_law_280 : decode cL_law 280 = .ok (.iconst 1, 1) := by decide +kernel
theorem dL_law_281 : decode cL_law 281 = .ok (.iadd, 1) := by decide +kernel
theorem dL_law_282 : decode cL_law 282 = .ok (.iaload, 1) := by decide +kernel
theorem dL_law_283 : decode cL_law 283 = .ok (.invokevirtual 36, 3) := by decide +kernel
theorem dL_law_286 : decode cL_law 286 = .ok (.aload_n 2, 1) := by decide +kernel
theorem dL_law_287 : decode cL_law 287 = .ok (.aload_n 0, 1) := by decide +kernel
theorem dL_law_288 : decode cL_law 288 = .ok (.iload_n 3, 1) := by decide +kernel
theorem dL_law_289 : decode cL_law 289 = .ok (.iconst 1, 1) := by decide +kernel
theorem dL_law_290 : decode cL_law 290 = .ok (.iadd, 1) := by decide +kernel
theorem dL_law_291 : decode cL_law 291 = .ok (.iaload, 1) := by decide +kernel
theorem dL_law_292 : decode cL_law 292 = .ok (.invokevirtual 39, 3) := by decide +kernel
theorem dL_law_295 : decode cL_law 295 = .ok (.if_icmp .eq 676, 3) := by decide +kernel
theorem dL_law_298 : decode cL_law 298 = .ok (.iconst 0, 1) := by decide +kernel
theorem dL_law_299 : decode cL_law 299 = .ok (.ireturn, 1) := by decide +kernel
theorem dL_law_300 : decode cL_law 300 = .ok (.aload_n 1, 1) := by decide +kernel
theorem dL_law_301 : decode cL_law 301 = .ok (.aload_n 0, 1) := by decide +kernel
theorem dL_law_302 : decode cL_law 302 = .ok (.iload_n 3, 1) := by decide +kernel
theorem dL_law_303 : decode cL_law 303 = .ok (.iconst 1, 1) := by decide +kernel
theorem dL_law_304 : decode cL_law 304 = .ok (.iadd, 1) := by decide +kernel
theorem dL_law_305 : decode cL_law 305 = .ok (.iaload, 1) := by decide +kernel
theorem dL_law_306 : decode cL_law 306 = .ok (.invokevirtual 40, 3) := by decide +kernel
theorem dL_law_309 : decode cL_law 309 = .ok (.aload_n 2, 1) := by decide +kernel
theorem dL_law_310 : decode cL_law 310 = .ok (.aload_n 0, 1) := by decide +kernel
theorem dL_law_311 : decode cL_law 311 = .ok (.iload_n 3, 1) := by decide +kernel
theorem dL_law_312 : decode cL_law 312 = .ok (.iconst 1, 1) := by decide +kernel
theorem dL_law_313 : decode cL_law 313 = .ok (.iadd, 1) := by decide +kernel
theorem dL_law_314 : decode cL_law 314 = .ok (.iaload, 1) := by decide +kernel
theorem dL_law_315 : decode cL_law 315 = .ok (.invokevirtual 43, 3) := by decide +kernel
theorem dL_law_318 : decode cL_law 318 = .ok (.if_icmp .eq 653, 3) := by decide +kernel
theorem dL_law_321 : decode cL_law 321 = .ok (.iconst 0, 1) := by decide +kernel
theorem dL_law_322 : decode cL_law 322 = .ok (.ireturn, 1) := by decide +kernel
theorem dL_law_323 : decode cL_law 323 = .ok (.aload_n 1, 1) := by decide +kernel
theorem dL_law_324 : decode cL_law 324 = .ok (.aload_n 0, 1) := by decide +kernel
theorem dL_law_325 : decode cL_law 325 = .ok (.iload_n 3, 1) := by decide +kernel
theorem dL_law_326 : decode cL_law 326 = .ok (.iconst 1, 1) := by decide +kernel
theorem dL_law_327 : decode cL_law 327 = .ok (.iadd, 1) := by decide +kernel
theorem dL_law_328 : decode cL_law 328 = .ok (.iaload, 1) := by decide +kernel
theorem dL_law_329 : decode cL_law 329 = .ok (.aload_n 0, 1) := by decide +kernel
theorem dL_law_330 : decode cL_law 330 = .ok (.iload_n 3, 1) := by decide +kernel
theorem dL_law_331 : decode cL_law 331 = .ok (.iconst 2, 1) := by decide +kernel
theorem dL_law_332 : decode cL_law 332 = .ok (.iadd, 1) := by decide +kernel
theorem dL_law_333 : decode cL_law 333 = .ok (.iaload, 1) := by decide +kernel
theorem dL_law_334 : decode cL_law 334 = .ok (.invokevirtual 44, 3) := by decide +kernel
theorem dL_law_337 : decode cL_law 337 = .ok (.aload_n 2, 1) := by decide +kernel
theorem dL_law_338 : decode cL_law 338 = .ok (.aload_n 0, 1) := by decide +kernel
theorem dL_law_339 : decode cL_law 339 = .ok (.iload_n 3, 1) := by decide +kernel
theorem dL_law_340 : decode cL_law 340 = .ok (.iconst 1, 1) := by decide +kernel
theorem dL_law_341 : decode cL_law 341 = .ok (.iadd, 1) := by decide +kernel
theorem dL_law_342 : decode cL_law 342 = .ok (.iaload, 1) := by decide +kernel
theorem dL_law_343 : decode cL_law 343 = .ok (.aload_n 0, 1) := by decide +kernel
theorem dL_law_344 : decode cL_law 344 = .ok (.iload_n 3, 1) := by decide +kernel
theorem dL_law_345 : decode cL_law 345 = .ok (.iconst 2, 1) := by decide +kernel
theorem dL_law_346 : decode cL_law 346 = .ok (.iadd, 1) := by decide +kernel
theorem dL_law_347 : decode cL_law 347 = .ok (.iaload, 1) := by decide +kernel
theorem dL_law_348 : decode cL_law 348 = .ok (.invokevirtual 47, 3) := by decide +kernel
theorem dL_law_351 : decode cL_law 351 = .ok (.if_icmp .eq 620, 3) := by decide +kernel
theorem dL_law_354 : decode cL_law 354 = .ok (.iconst 0, 1) := by decide +kernel
theorem dL_law_355 : decode cL_law 355 = .ok (.ireturn, 1) := by decide +kernel
theorem dL_law_356 : decode cL_law 356 = .ok (.aload_n 1, 1) := by decide +kernel
theorem dL_law_357 : decode cL_law 357 = .ok (.aload_n 0, 1) := by decide +kernel
theorem dL_law_358 : decode cL_law 358 = .ok (.iload_n 3, 1) := by decide +kernel
theorem dL_law_359 : decode cL_law 359 = .ok (.iconst 1, 1) := by decide +kernel
theorem dL_law_360 : decode cL_law 360 = .ok (.iadd, 1) := by decide +kernel
theorem dL_law_361 : decode cL_law 361 = .ok (.iaload, 1) := by decide +kernel
theorem dL_law_362 : decode cL_law 362 = .ok (.invokevirtual 48, 3) := by decide +kernel
theorem dL_law_365 : decode cL_law 365 = .ok (.aload_n 2, 1) := by decide +kernel
theorem dL_law_366 : decode cL_law 366 = .ok (.aload_n 0, 1) := by decide +kernel
theorem dL_law_367 : decode cL_law 367 = .ok (.iload_n 3, 1) := by decide +kernel
theorem dL_law_368 : decode cL_law 368 = .ok (.iconst 1, 1) := by decide +kernel
theorem dL_law_369 : decode cL_law 369 = .ok (.iadd, 1) := by decide +kernel
theorem dL_law_370 : decode cL_law 370 = .ok (.iaload, 1) := by decide +kernel
theorem dL_law_371 : decode cL_law 371 = .ok (.invokevirtual 51, 3) := by decide +kernel
theorem dL_law_374 : decode cL_law 374 = .ok (.if_icmp .eq 597, 3) := by decide +kernel
theorem dL_law_377 : decode cL_law 377 = .ok (.iconst 0, 1) := by decide +kernel
theorem dL_law_378 : decode cL_law 378 = .ok (.ireturn, 1) := by decide +kernel
theorem dL_law_379 : decode cL_law 379 = .ok (.aload_n 1, 1) := by decide +kernel
theorem dL_law_380 : decode cL_law 380 = .ok (.aload_n 0, 1) := by decide +kernel
theorem dL_law_381 : decode cL_law 381 = .ok (.iload_n 3, 1) := by decide +kernel
theorem dL_law_382 : decode cL_law 382 = .ok (.iconst 1, 1) := by decide +kernel
theorem dL_law_383 : decode cL_law 383 = .ok (.iadd, 1) := by decide +kernel
theorem dL_law_384 : decode cL_law 384 = .ok (.iaload, 1) := by decide +kernel
theorem dL_law_385 : decode cL_law 385 = .ok (.invokevirtual 52, 3) := by decide +kernel
theorem dL_law_388 : decode cL_law 388 = .ok (.aload_n 2, 1) := by decide +kernel
theorem dL_law_389 : decode cL_law 389 = .ok (.aload_n 0, 1) := by decide +kernel
theorem dL_law_390 : decode cL_law 390 = .ok (.iload_n 3, 1) := by decide +kernel
theorem dL_law_391 : decode cL_law 391 = .ok (.iconst 1, 1) := by decide +kernel
theorem dL_law_392 : decode cL_law 392 = .ok (.iadd, 1) := by decide +kernel
theorem dL_law_393 : decode cL_law 393 = .ok (.iaload, 1) := by decide +kernel
theorem dL_law_394 : decode cL_law 394 = .ok (.invokevirtual 55, 3) := by decide +kernel
theorem dL_law_397 : decode cL_law 397 = .ok (.if_icmp .eq 574, 3) := by decide +kernel
theorem dL_law_400 : decode cL_law 400 = .ok (.iconst 0, 1) := by decide +kernel
theorem dL_law_401 : decode cL_law 401 = .ok (.ireturn, 1) := by decide +kernel
theorem dL_law_402 : decode cL_law 402 = .ok (.aload_n 1, 1) := by decide +kernel
theorem dL_law_403 : decode cL_law 403 = .ok (.aload_n 0, 1) := by decide +kernel
theorem dL_law_404 : decode cL_law 404 = .ok (.iload_n 3, 1) := by decide +kernel
theorem dL_law_405 : decode cL_law 405 = .ok (.iconst 1, 1) := by decide +kernel
theorem dL_law_406 : decode cL_law 406 = .ok (.iadd, 1) := by decide +kernel
theorem dL_law_407 : decode cL_law 407 = .ok (.iaload, 1) := by decide +kernel
theorem dL_law_408 : decode cL_law 408 = .ok (.invokevirtual 56, 3) := by decide +kernel
theorem dL_law_411 : decode cL_law 411 = .ok (.aload_n 2, 1) := by decide +kernel
theorem dL_law_412 : decode cL_law 412 = .ok (.aload_n 0, 1) := by decide +kernel
theorem dL_law_413 : decode cL_law 413 = .ok (.iload_n 3, 1) := by decide +kernel
theorem dL_law_414 : decode cL_law 414 = .ok (.iconst 1, 1) := by decide +kernel
theorem dL_law_415 : decode cL_law 415 = .ok (.iadd, 1) := by decide +kernel
theorem dL_law_416 : decode cL_law 416 = .ok (.iaload, 1) := by decide +kernel
theorem dL_law_417 : decode cL_law 417 = .ok (.invokevirtual 59, 3) := by decide +kernel
theorem dL_law_420 : decode cL_law 420 = .ok (.if_icmp .eq 551, 3) := by decide +kernel
theorem dL_law_423 : decode cL_law 423 = .ok (.iconst 0, 1) := by decide +kernel
theorem dL_law_424 : decode cL_law 424 = .ok (.ireturn, 1) := by decide +kernel
theorem dL_law_425 : decode cL_law 425 = .ok (.aload_n 1, 1) := by decide +kernel
theorem dL_law_426 : decode cL_law 426 = .ok (.aload_n 0, 1) := by decide +kernel
theorem dL_law_427 : decode cL_law 427 = .ok (.iload_n 3, 1) := by decide +kernel
theorem dL_law_428 : decode cL_law 428 = .ok (.iconst 1, 1) := by decide +kernel
theorem dL_law_429 : decode cL_law 429 = .ok (.iadd, 1) := by decide +kernel
theorem dL_law_430 : decode cL_law 430 = .ok (.iaload, 1) := by decide +kernel
theorem dL_law_431 : decode cL_law 431 = .ok (.invokevirtual 60, 3) := by decide +kernel
theorem dL_law_434 : decode cL_law 434 = .ok (.aload_n 2, 1) := by decide +kernel
theorem dL_law_435 : decode cL_law 435 = .ok (.aload_n 0, 1) := by decide +kernel
theorem dL_law_436 : decode cL_law 436 = .ok (.iload_n 3, 1) := by decide +kernel
theorem dL_law_437 : decode cL_law 437 = .ok (.iconst 1, 1) := by decide +kernel
theorem dL_law_438 : decode cL_law 438 = .ok (.iadd, 1) := by decide +kernel
theorem dL_law_439 : decode cL_law 439 = .ok (.iaload, 1) := by decide +kernel
theorem dL_law_440 : decode cL_law 440 = .ok (.invokevirtual 63, 3) := by decide +kernel
theorem dL_law_443 : decode cL_law 443 = .ok (.if_icmp .eq 528, 3) := by decide +kernel
theorem dL_law_446 : decode cL_law 446 = .ok (.iconst 0, 1) := by decide +kernel
theorem dL_law_447 : decode cL_law 447 = .ok (.ireturn, 1) := by decide +kernel
theorem dL_law_448 : decode cL_law 448 = .ok (.aload_n 1, 1) := by decide +kernel
theorem dL_law_449 : decode cL_law 449 = .ok (.aload_n 0, 1) := by decide +kernel
theorem dL_law_450 : decode cL_law 450 = .ok (.iload_n 3, 1) := by decide +kernel
theorem dL_law_451 : decode cL_law 451 = .ok (.iconst 1, 1) := by decide +kernel
theorem dL_law_452 : decode cL_law 452 = .ok (.iadd, 1) := by decide +kernel
theorem dL_law_453 : decode cL_law 453 = .ok (.iaload, 1) := by decide +kernel
theorem dL_law_454 : decode cL_law 454 = .ok (.invokevirtual 64, 3) := by decide +kernel
theorem dL_law_457 : decode cL_law 457 = .ok (.aload_n 2, 1) := by decide +kernel
theorem dL_law_458 : decode cL_law 458 = .ok (.aload_n 0, 1) := by decide +kernel
theorem dL_law_459 : decode cL_law 459 = .ok (.iload_n 3, 1) := by decide +kernel
theorem dL_law_460 : decode cL_law 460 = .ok (.iconst 1, 1) := by decide +kernel
theorem dL_law_461 : decode cL_law 461 = .ok (.iadd, 1) := by decide +kernel
theorem dL_law_462 : decode cL_law 462 = .ok (.iaload, 1) := by decide +kernel
theorem dL_law_463 : decode cL_law 463 = .ok (.invokevirtual 67, 3) := by decide +kernel
theorem dL_law_466 : decode cL_law 466 = .ok (.if_icmp .eq 505, 3) := by decide +kernel
theorem dL_law_469 : decode cL_law 469 = .ok (.iconst 0, 1) := by decide +kernel
theorem dL_law_470 : decode cL_law 470 = .ok (.ireturn, 1) := by decide +kernel
theorem dL_law_471 : decode cL_law 471 = .ok (.aload_n 1, 1) := by decide +kernel
theorem dL_law_472 : decode cL_law 472 = .ok (.aload_n 0, 1) := by decide +kernel
theorem dL_law_473 : decode cL_law 473 = .ok (.iload_n 3, 1) := by decide +kernel
theorem dL_law_474 : decode cL_law 474 = .ok (.iconst 1, 1) := by decide +kernel
theorem dL_law_475 : decode cL_law 475 = .ok (.iadd, 1) := by decide +kernel
theorem dL_law_476 : decode cL_law 476 = .ok (.iaload, 1) := by decide +kernel
theorem dL_law_477 : decode cL_law 477 = .ok (.aload_n 0, 1) := by decide +kernel
theorem dL_law_478 : decode cL_law 478 = .ok (.iload_n 3, 1) := by decide +kernel
theorem dL_law_479 : decode cL_law 479 = .ok (.iconst 2, 1) := by decide +kernel
theorem dL_law_480 : decode cL_law 480 = .ok (.iadd, 1) := by decide +kernel
theorem dL_law_481 : decode cL_law 481 = .ok (.iaload, 1) := by decide +kernel
theorem dL_law_482 : decode cL_law 482 = .ok (.aload_n 0, 1) := by decide +kernel
theorem dL_law_483 : decode cL_law 483 = .ok (.iload_n 3, 1) := by decide +kernel
theorem dL_law_484 : decode cL_law 484 = .ok (.iconst 3, 1) := by decide +kernel
theorem dL_law_485 : decode cL_law 485 = .ok (.iadd, 1) := by decide +kernel
theorem dL_law_486 : decode cL_law 486 = .ok (.iaload, 1) := by decide +kernel
theorem dL_law_487 : decode cL_law 487 = .ok (.invokevirtual 68, 3) := by decide +kernel
theorem dL_law_490 : decode cL_law 490 = .ok (.aload_n 2, 1) := by decide +kernel
theorem dL_law_491 : decode cL_law 491 = .ok (.aload_n 0, 1) := by decide +kernel
theorem dL_law_492 : decode cL_law 492 = .ok (.iload_n 3, 1) := by decide +kernel
theorem dL_law_493 : decode cL_law 493 = .ok (.iconst 1, 1) := by decide +kernel
theorem dL_law_494 : decode cL_law 494 = .ok (.iadd, 1) := by decide +kernel
theorem dL_law_495 : decode cL_law 495 = .ok (.iaload, 1) := by decide +kernel
theorem dL_law_496 : decode cL_law 496 = .ok (.aload_n 0, 1) := by decide +kernel
theorem dL_law_497 : decode cL_law 497 = .ok (.iload_n 3, 1) := by decide +kernel
theorem dL_law_498 : decode cL_law 498 = .ok (.iconst 2, 1) := by decide +kernel
theorem dL_law_499 : decode cL_law 499 = .ok (.iadd, 1) := by decide +kernel
theorem dL_law_500 : decode cL_law 500 = .ok (.iaload, 1) := by decide +kernel
theorem dL_law_501 : decode cL_law 501 = .ok (.aload_n 0, 1) := by decide +kernel
theorem dL_law_502 : decode cL_law 502 = .ok (.iload_n 3, 1) := by decide +kernel
theorem dL_law_503 : decode cL_law 503 = .ok (.iconst 3, 1) := by decide +kernel
theorem dL_law_504 : decode cL_law 504 = .ok (.iadd, 1) := by decide +kernel
theorem dL_law_505 : decode cL_law 505 = .ok (.iaload, 1) := by decide +kernel
theorem dL_law_506 : decode cL_law 506 = .ok (.invokevirtual 72, 3) := by decide +kernel
theorem dL_law_509 : decode cL_law 509 = .ok (.if_icmp .eq 462, 3) := by decide +kernel
theorem dL_law_512 : decode cL_law 512 = .ok (.iconst 0, 1) := by decide +kernel
theorem dL_law_513 : decode cL_law 513 = .ok (.ireturn, 1) := by decide +kernel
theorem dL_law_514 : decode cL_law 514 = .ok (.aload_n 1, 1) := by decide +kernel
theorem dL_law_515 : decode cL_law 515 = .ok (.aload_n 0, 1) := by decide +kernel
theorem dL_law_516 : decode cL_law 516 = .ok (.iload_n 3, 1) := by decide +kernel
theorem dL_law_517 : decode cL_law 517 = .ok (.iconst 1, 1) := by decide +kernel
theorem dL_law_518 : decode cL_law 518 = .ok (.iadd, 1) := by decide +kernel
theorem dL_law_519 : decode cL_law 519 = .ok (.iaload, 1) := by decide +kernel
theorem dL_law_520 : decode cL_law 520 = .ok (.aload_n 0, 1) := by decide +kernel
theorem dL_law_521 : decode cL_law 521 = .ok (.iload_n 3, 1) := by decide +kernel
theorem dL_law_522 : decode cL_law 522 = .ok (.iconst 2, 1) := by decide +kernel
theorem dL_law_523 : decode cL_law 523 = .ok (.iadd, 1) := by decide +kernel
theorem dL_law_524 : decode cL_law 524 = .ok (.iaload, 1) := by decide +kernel
theorem dL_law_525 : decode cL_law 525 = .ok (.invokevirtual 73, 3) := by decide +kernel
theorem dL_law_528 : decode cL_law 528 = .ok (.aload_n 2, 1) := by decide +kernel
theorem dL_law_529 : decode cL_law 529 = .ok (.aload_n 0, 1) := by decide +kernel
theorem dL_law_530 : decode cL_law 530 = .ok (.iload_n 3, 1) := by decide +kernel
theorem dL_law_531 : decode cL_law 531 = .ok (.iconst 1, 1) := by decide +kernel
theorem dL_law_532 : decode cL_law 532 = .ok (.iadd, 1) := by decide +kernel
theorem dL_law_533 : decode cL_law 533 = .ok (.iaload, 1) := by decide +kernel
theorem dL_law_534 : decode cL_law 534 = .ok (.aload_n 0, 1) := by decide +kernel
theorem dL_law_535 : decode cL_law 535 = .ok (.iload_n 3, 1) := by decide +kernel
theorem dL_law_536 : decode cL_law 536 = .ok (.iconst 2, 1) := by decide +kernel
theorem dL_law_537 : decode cL_law 537 = .ok (.iadd, 1) := by decide +kernel
theorem dL_law_538 : decode cL_law 538 = .ok (.iaload, 1) := by decide +kernel
theorem dL_law_539 : decode cL_law 539 = .ok (.invokevirtual 76, 3) := by decide +kernel
theorem dL_law_542 : decode cL_law 542 = .ok (.if_icmp .eq 429, 3) := by decide +kernel
theorem dL_law_545 : decode cL_law 545 = .ok (.iconst 0, 1) := by decide +kernel
theorem dL_law_546 : decode cL_law 546 = .ok (.ireturn, 1) := by decide +kernel
theorem dL_law_547 : decode cL_law 547 = .ok (.aload_n 1, 1) := by decide +kernel
theorem dL_law_548 : decode cL_law 548 = .ok (.aload_n 0, 1) := by decide +kernel
theorem dL_law_549 : decode cL_law 549 = .ok (.iload_n 3, 1) := by decide +kernel
theorem dL_law_550 : decode cL_law 550 = .ok (.iconst 1, 1) := by decide +kernel
theorem dL_law_551 : decode cL_law 551 = .ok (.iadd, 1) := by decide +kernel
theorem dL_law_552 : decode cL_law 552 = .ok (.iaload, 1) := by decide +kernel
theorem dL_law_553 : decode cL_law 553 = .ok (.aload_n 0, 1) := by decide +kernel
theorem dL_law_554 : decode cL_law 554 = .ok (.iload_n 3, 1) := by decide +kernel
theorem dL_law_555 : decode cL_law 555 = .ok (.iconst 2, 1) := by decide +kernel
theorem dL_law_556 : decode cL_law 556 = .ok (.iadd, 1) := by decide +kernel
theorem dL_law_557 : decode cL_law 557 = .ok (.iaload, 1) := by decide +kernel
theorem dL_law_558 : decode cL_law 558 = .ok (.invokevirtual 77, 3) := by decide +kernel
theorem dL_law_561 : decode cL_law 561 = .ok (.aload_n 2, 1) := by decide +kernel
theorem dL_law_562 : decode cL_law 562 = .ok (.aload_n 0, 1) := by decide +kernel
theorem dL_law_563 : decode cL_law 563 = .ok (.iload_n 3, 1) := by decide +kernel
theorem dL_law_564 : decode cL_law 564 = .ok (.iconst 1, 1) := by decide +kernel
theorem dL_law_565 : decode cL_law 565 = .ok (.iadd, 1) := by decide +kernel
theorem dL_law_566 : decode cL_law 566 = .ok (.iaload, 1) := by decide +kernel
theorem dL_law_567 : decode cL_law 567 = .ok (.aload_n 0, 1) := by decide +kernel
theorem dL_law_568 : decode cL_law 568 = .ok (.iload_n 3, 1) := by decide +kernel
theorem dL_law_569 : decode cL_law 569 = .ok (.iconst 2, 1) := by decide +kernel
theorem dL_law_570 : decode cL_law 570 = .ok (.iadd, 1) := by decide +kernel
theorem dL_law_571 : decode cL_law 571 = .ok (.iaload, 1) := by decide +kernel
theorem dL_law_572 : decode cL_law 572 = .ok (.invokevirtual 80, 3) := by decide +kernel
theorem dL_law_575 : decode cL_law 575 = .ok (.if_icmp .eq 396, 3) := by decide +kernel
theorem dL_law_578 : decode cL_law 578 = .ok (.iconst 0, 1) := by decide +kernel
theorem dL_law_579 : decode cL_law 579 = .ok (.ireturn, 1) := by decide +kernel
theorem dL_law_580 : decode cL_law 580 = .ok (.aload_n 1, 1) := by decide +kernel
theorem dL_law_581 : decode cL_law 581 = .ok (.aload_n 0, 1) := by decide +kernel
theorem dL_law_582 : decode cL_law 582 = .ok (.iload_n 3, 1) := by decide +kernel
theorem dL_law_583 : decode cL_law 583 = .ok (.iconst 1, 1) := by decide +kernel
theorem dL_law_584 : decode cL_law 584 = .ok (.iadd, 1) := by decide +kernel
theorem dL_law_585 : decode cL_law 585 = .ok (.iaload, 1) := by decide +kernel
theorem dL_law_586 : decode cL_law 586 = .ok (.invokevirtual 81, 3) := by decide +kernel
theorem dL_law_589 : decode cL_law 589 = .ok (.aload_n 2, 1) := by decide +kernel
theorem dL_law_590 : decode cL_law 590 = .ok (.aload_n 0, 1) := by decide +kernel
theorem dL_law_591 : decode cL_law 591 = .ok (.iload_n 3, 1) := by decide +kernel
theorem dL_law_592 : decode cL_law 592 = .ok (.iconst 1, 1) := by decide +kernel
theorem dL_law_593 : decode cL_law 593 = .ok (.iadd, 1) := by decide +kernel
theorem dL_law_594 : decode cL_law 594 = .ok (.iaload, 1) := by decide +kernel
theorem dL_law_595 : decode cL_law 595 = .ok (.invokevirtual 84, 3) := by decide +kernel
theorem dL_law_598 : decode cL_law 598 = .ok (.if_icmp .eq 373, 3) := by decide +kernel
theorem dL_law_601 : decode cL_law 601 = .ok (.iconst 0, 1) := by decide +kernel
theorem dL_law_602 : decode cL_law 602 = .ok (.ireturn, 1) := by decide +kernel
theorem dL_law_603 : decode cL_law 603 = .ok (.aload_n 1, 1) := by decide +kernel
theorem dL_law_604 : decode cL_law 604 = .ok (.aload_n 0, 1) := by decide +kernel
theorem dL_law_605 : decode cL_law 605 = .ok (.iload_n 3, 1) := by decide +kernel
theorem dL_law_606 : decode cL_law 606 = .ok (.iconst 1, 1) := by decide +kernel
theorem dL_law_607 : decode cL_law 607 = .ok (.iadd, 1) := by decide +kernel
theorem dL_law_608 : decode cL_law 608 = .ok (.iaload, 1) := by decide +kernel
theorem dL_law_609 : decode cL_law 609 = .ok (.invokevirtual 85, 3) := by decide +kernel
theorem dL_law_612 : decode cL_law 612 = .ok (.aload_n 2, 1) := by decide +kernel
theorem dL_law_613 : decode cL_law 613 = .ok (.aload_n 0, 1) := by decide +kernel
theorem dL_law_614 : decode cL_law 614 = .ok (.iload_n 3, 1) := by decide +kernel
theorem dL_law_615 : decode cL_law 615 = .ok (.iconst 1, 1) := by decide +kernel
theorem dL_law_616 : decode cL_law 616 = .ok (.iadd, 1) := by decide +kernel
theorem dL_law_617 : decode cL_law 617 = .ok (.iaload, 1) := by decide +kernel
theorem dL_law_618 : decode cL_law 618 = .ok (.invokevirtual 88, 3) := by decide +kernel
theorem dL_law_621 : decode cL_law 621 = .ok (.if_icmp .eq 350, 3) := by decide +kernel
theorem dL_law_624 : decode cL_law 624 = .ok (.iconst 0, 1) := by decide +kernel
theorem dL_law_625 : decode cL_law 625 = .ok (.ireturn, 1) := by decide +kernel
theorem dL_law_626 : decode cL_law 626 = .ok (.aload_n 1, 1) := by decide +kernel
theorem dL_law_627 : decode cL_law 627 = .ok (.invokevirtual 89, 3) := by decide +kernel
theorem dL_law_630 : decode cL_law 630 = .ok (.aload_n 2, 1) := by decide +kernel
theorem dL_law_631 : decode cL_law 631 = .ok (.invokevirtual 92, 3) := by decide +kernel
theorem dL_law_634 : decode cL_law 634 = .ok (.if_icmp .eq 337, 3) := by decide +kernel
theorem dL_law_637 : decode cL_law 637 = .ok (.iconst 0, 1) := by decide +kernel
theorem dL_law_638 : decode cL_law 638 = .ok (.ireturn, 1) := by decide +kernel
theorem dL_law_639 : decode cL_law 639 = .ok (.aload_n 1, 1) := by decide +kernel
theorem dL_law_640 : decode cL_law 640 = .ok (.aload_n 0, 1) := by decide +kernel
theorem dL_law_641 : decode cL_law 641 = .ok (.iload_n 3, 1) := by decide +kernel
theorem dL_law_642 : decode cL_law 642 = .ok (.iconst 1, 1) := by decide +kernel
theorem dL_law_643 : decode cL_law 643 = .ok (.iadd, 1) := by decide +kernel
theorem dL_law_644 : decode cL_law 644 = .ok (.iaload, 1) := by decide +kernel
theorem dL_law_645 : decode cL_law 645 = .ok (.invokevirtual 93, 3) := by decide +kernel
theorem dL_law_648 : decode cL_law 648 = .ok (.aload_n 2, 1) := by decide +kernel
theorem dL_law_649 : decode cL_law 649 = .ok (.aload_n 0, 1) := by decide +kernel
theorem dL_law_650 : decode cL_law 650 = .ok (.iload_n 3, 1) := by decide +kernel
theorem dL_law_651 : decode cL_law 651 = .ok (.iconst 1, 1) := by decide +kernel
theorem dL_law_652 : decode cL_law 652 = .ok (.iadd, 1) := by decide +kernel
theorem dL_law_653 : decode cL_law 653 = .ok (.iaload, 1) := by decide +kernel
theorem dL_law_654 : decode cL_law 654 = .ok (.invokevirtual 96, 3) := by decide +kernel
theorem dL_law_657 : decode cL_law 657 = .ok (.if_icmp .eq 314, 3) := by decide +kernel
theorem dL_law_660 : decode cL_law 660 = .ok (.iconst 0, 1) := by decide +kernel
theorem dL_law_661 : decode cL_law 661 = .ok (.ireturn, 1) := by decide +kernel
theorem dL_law_662 : decode cL_law 662 = .ok (.aload_n 1, 1) := by decide +kernel
theorem dL_law_663 : decode cL_law 663 = .ok (.aload_n 0, 1) := by decide +kernel
theorem dL_law_664 : decode cL_law 664 = .ok (.iload_n 3, 1) := by decide +kernel
theorem dL_law_665 : decode cL_law 665 = .ok (.iconst 1, 1) := by decide +kernel
theorem dL_law_666 : decode cL_law 666 = .ok (.iadd, 1) := by decide +kernel
theorem dL_law_667 : decode cL_law 667 = .ok (.iaload, 1) := by decide +kernel
theorem dL_law_668 : decode cL_law 668 = .ok (.aload_n 0, 1) := by decide +kernel
theorem dL_law_669 : decode cL_law 669 = .ok (.iload_n 3, 1) := by decide +kernel
theorem dL_law_670 : decode cL_law 670 = .ok (.iconst 2, 1) := by decide +kernel
theorem dL_law_671 : decode cL_law 671 = .ok (.iadd, 1) := by decide +kernel
theorem dL_law_672 : decode cL_law 672 = .ok (.iaload, 1) := by decide +kernel
theorem dL_law_673 : decode cL_law 673 = .ok (.aload_n 0, 1) := by decide +kernel
theorem dL_law_674 : decode cL_law 674 = .ok (.iload_n 3, 1) := by decide +kernel
theorem dL_law_675 : decode cL_law 675 = .ok (.iconst 3, 1) := by decide +kernel
theorem dL_law_676 : decode cL_law 676 = .ok (.iadd, 1) := by decide +kernel
theorem dL_law_677 : decode cL_law 677 = .ok (.iaload, 1) := by decide +kernel
theorem dL_law_678 : decode cL_law 678 = .ok (.aload_n 0, 1) := by decide +kernel
theorem dL_law_679 : decode cL_law 679 = .ok (.iload_n 3, 1) := by decide +kernel
theorem dL_law_680 : decode cL_law 680 = .ok (.iconst 4, 1) := by decide +kernel
theorem dL_law_681 : decode cL_law 681 = .ok (.iadd, 1) := by decide +kernel
theorem dL_law_682 : decode cL_law 682 = .ok (.iaload, 1) := by decide +kernel
theorem dL_law_683 : decode cL_law 683 = .ok (.aload_n 0, 1) := by decide +kernel
theorem dL_law_684 : decode cL_law 684 = .ok (.iload_n 3, 1) := by decide +kernel
theorem dL_law_685 : decode cL_law 685 = .ok (.iconst 5, 1) := by decide +kernel
theorem dL_law_686 : decode cL_law 686 = .ok (.iadd, 1) := by decide +kernel
theorem dL_law_687 : decode cL_law 687 = .ok (.iaload, 1) := by decide +kernel
theorem dL_law_688 : decode cL_law 688 = .ok (.invokevirtual 97, 3) := by decide +kernel
theorem dL_law_691 : decode cL_law 691 = .ok (.aload_n 2, 1) := by decide +kernel
theorem dL_law_692 : decode cL_law 692 = .ok (.aload_n 0, 1) := by decide +kernel
theorem dL_law_693 : decode cL_law 693 = .ok (.iload_n 3, 1) := by decide +kernel
theorem dL_law_694 : decode cL_law 694 = .ok (.iconst 1, 1) := by decide +kernel
theorem dL_law_695 : decode cL_law 695 = .ok (.iadd, 1) := by decide +kernel
theorem dL_law_696 : decode cL_law 696 = .ok (.iaload, 1) := by decide +kernel
theorem dL_law_697 : decode cL_law 697 = .ok (.aload_n 0, 1) := by decide +kernel
theorem dL_law_698 : decode cL_law 698 = .ok (.iload_n 3, 1) := by decide +kernel
theorem dL_law_699 : decode cL_law 699 = .ok (.iconst 2, 1) := by decide +kernel
theorem dL_law_700 : decode cL_law 700 = .ok (.iadd, 1) := by decide +kernel
theorem dL_law_701 : decode cL_law 701 = .ok (.iaload, 1) := by decide +kernel
theorem dL_law_702 : decode cL_law 702 = .ok (.aload_n 0, 1) := by decide +kernel
theorem dL_law_703 : decode cL_law 703 = .ok (.iload_n 3, 1) := by decide +kernel
theorem dL_law_704 : decode cL_law 704 = .ok (.iconst 3, 1) := by decide +kernel
theorem dL_law_705 : decode cL_law 705 = .ok (.iadd, 1) := by decide +kernel
theorem dL_law_706 : decode cL_law 706 = .ok (.iaload, 1) := by decide +kernel
theorem dL_law_707 : decode cL_law 707 = .ok (.aload_n 0, 1) := by decide +kernel
theorem dL_law_708 : decode cL_law 708 = .ok (.iload_n 3, 1) := by decide +kernel
theorem dL_law_709 : decode cL_law 709 = .ok (.iconst 4, 1) := by decide +kernel
theorem dL_law_710 : decode cL_law 710 = .ok (.iadd, 1) := by decide +kernel
theorem dL_law_711 : decode cL_law 711 = .ok (.iaload, 1) := by decide +kernel
theorem dL_law_712 : decode cL_law 712 = .ok (.aload_n 0, 1) := by decide +kernel
theorem dL_law_713 : decode cL_law 713 = .ok (.iload_n 3, 1) := by decide +kernel
theorem dL_law_714 : decode cL_law 714 = .ok (.iconst 5, 1) := by decide +kernel
theorem dL_law_715 : decode cL_law 715 = .ok (.iadd, 1) := by decide +kernel
theorem dL_law_716 : decode cL_law 716 = .ok (.iaload, 1) := by decide +kernel
theorem dL_law_717 : decode cL_law 717 = .ok (.invokevirtual 101, 3) := by decide +kernel
theorem dL_law_720 : decode cL_law 720 = .ok (.if_icmp .eq 251, 3) := by decide +kernel
theorem dL_law_723 : decode cL_law 723 = .ok (.iconst 0, 1) := by decide +kernel
theorem dL_law_724 : decode cL_law 724 = .ok (.ireturn, 1) := by decide +kernel
theorem dL_law_725 : decode cL_law 725 = .ok (.aload_n 1, 1) := by decide +kernel
theorem dL_law_726 : decode cL_law 726 = .ok (.aload_n 0, 1) := by decide +kernel
theorem dL_law_727 : decode cL_law 727 = .ok (.iload_n 3, 1) := by decide +kernel
theorem dL_law_728 : decode cL_law 728 = .ok (.iconst 1, 1) := by decide +kernel
theorem dL_law_729 : decode cL_law 729 = .ok (.iadd, 1) := by decide +kernel
theorem dL_law_730 : decode cL_law 730 = .ok (.iaload, 1) := by decide +kernel
theorem dL_law_731 : decode cL_law 731 = .ok (.aload_n 0, 1) := by decide +kernel
theorem dL_law_732 : decode cL_law 732 = .ok (.iload_n 3, 1) := by decide +kernel
theorem dL_law_733 : decode cL_law 733 = .ok (.iconst 2, 1) := by decide +kernel
theorem dL_law_734 : decode cL_law 734 = .ok (.iadd, 1) := by decide +kernel
theorem dL_law_735 : decode cL_law 735 = .ok (.iaload, 1) := by decide +kernel
theorem dL_law_736 : decode cL_law 736 = .ok (.invokevirtual 102, 3) := by decide +kernel
theorem dL_law_739 : decode cL_law 739 = .ok (.aload_n 2, 1) := by decide +kernel
theorem dL_law_740 : decode cL_law 740 = .ok (.aload_n 0, 1) := by decide +kernel
theorem dL_law_741 : decode cL_law 741 = .ok (.iload_n 3, 1) := by decide +kernel
theorem dL_law_742 : decode cL_law 742 = .ok (.iconst 1, 1) := by decide +kernel
theorem dL_law_743 : decode cL_law 743 = .ok (.iadd, 1) := by decide +kernel
theorem dL_law_744 : decode cL_law 744 = .ok (.iaload, 1) := by decide +kernel
theorem dL_law_745 : decode cL_law 745 = .ok (.aload_n 0, 1) := by decide +kernel
theorem dL_law_746 : decode cL_law 746 = .ok (.iload_n 3, 1) := by decide +kernel
theorem dL_law_747 : decode cL_law 747 = .ok (.iconst 2, 1) := by decide +kernel
theorem dL_law_748 : decode cL_law 748 = .ok (.iadd, 1) := by decide +kernel
theorem dL_law_749 : decode cL_law 749 = .ok (.iaload, 1) := by decide +kernel
theorem dL_law_750 : decode cL_law 750 = .ok (.invokevirtual 105, 3) := by decide +kernel
theorem dL_law_753 : decode cL_law 753 = .ok (.if_icmp .eq 218, 3) := by decide +kernel
theorem dL_law_756 : decode cL_law 756 = .ok (.iconst 0, 1) := by decide +kernel
theorem dL_law_757 : decode cL_law 757 = .ok (.ireturn, 1) := by decide +kernel
theorem dL_law_758 : decode cL_law 758 = .ok (.aload_n 1, 1) := by decide +kernel
theorem dL_law_759 : decode cL_law 759 = .ok (.aload_n 0, 1) := by decide +kernel
theorem dL_law_760 : decode cL_law 760 = .ok (.iload_n 3, 1) := by decide +kernel
theorem dL_law_761 : decode cL_law 761 = .ok (.iconst 1, 1) := by decide +kernel
theorem dL_law_762 : decode cL_law 762 = .ok (.iadd, 1) := by decide +kernel
theorem dL_law_763 : decode cL_law 763 = .ok (.iaload, 1) := by decide +kernel
theorem dL_law_764 : decode cL_law 764 = .ok (.invokevirtual 106, 3) := by decide +kernel
theorem dL_law_767 : decode cL_law 767 = .ok (.aload_n 2, 1) := by decide +kernel
theorem dL_law_768 : decode cL_law 768 = .ok (.aload_n 0, 1) := by decide +kernel
theorem dL_law_769 : decode cL_law 769 = .ok (.iload_n 3, 1) := by decide +kernel
theorem dL_law_770 : decode cL_law 770 = .ok (.iconst 1, 1) := by decide +kernel
theorem dL_law_771 : decode cL_law 771 = .ok (.iadd, 1) := by decide +kernel
theorem dL_law_772 : decode cL_law 772 = .ok (.iaload, 1) := by decide +kernel
theorem dL_law_773 : decode cL_law 773 = .ok (.invokevirtual 109, 3) := by decide +kernel
theorem dL_law_776 : decode cL_law 776 = .ok (.if_icmp .eq 195, 3) := by decide +kernel
theorem dL_law_779 : decode cL_law 779 = .ok (.iconst 0, 1) := by decide +kernel
theorem dL_law_780 : decode cL_law 780 = .ok (.ireturn, 1) := by decide +kernel
theorem dL_law_781 : decode cL_law 781 = .ok (.aload_n 1, 1) := by decide +kernel
theorem dL_law_782 : decode cL_law 782 = .ok (.aload_n 0, 1) := by decide +kernel
theorem dL_law_783 : decode cL_law 783 = .ok (.iload_n 3, 1) := by decide +kernel
theorem dL_law_784 : decode cL_law 784 = .ok (.iconst 1, 1) := by decide +kernel
theorem dL_law_785 : decode cL_law 785 = .ok (.iadd, 1) := by decide +kernel
theorem dL_law_786 : decode cL_law 786 = .ok (.iaload, 1) := by decide +kernel
theorem dL_law_787 : decode cL_law 787 = .ok (.invokevirtual 110, 3) := by decide +kernel
theorem dL_law_790 : decode cL_law 790 = .ok (.aload_n 2, 1) := by decide +kernel
theorem dL_law_791 : decode cL_law 791 = .ok (.aload_n 0, 1) := by decide +kernel
theorem dL_law_792 : decode cL_law 792 = .ok (.iload_n 3, 1) := by decide +kernel
theorem dL_law_793 : decode cL_law 793 = .ok (.iconst 1, 1) := by decide +kernel
theorem dL_law_794 : decode cL_law 794 = .ok (.iadd, 1) := by decide +kernel
theorem dL_law_795 : decode cL_law 795 = .ok (.iaload, 1) := by decide +kernel
theorem dL_law_796 : decode cL_law 796 = .ok (.invokevirtual 113, 3) := by decide +kernel
theorem dL_law_799 : decode cL_law 799 = .ok (.if_icmp .eq 172, 3) := by decide +kernel
theorem dL_law_802 : decode cL_law 802 = .ok (.iconst 0, 1) := by decide +kernel
theorem dL_law_803 : decode cL_law 803 = .ok (.ireturn, 1) := by decide +kernel
theorem dL_law_804 : decode cL_law 804 = .ok (.aload_n 1, 1) := by decide +kernel
theorem dL_law_805 : decode cL_law 805 = .ok (.invokevirtual 114, 3) := by decide +kernel
theorem dL_law_808 : decode cL_law 808 = .ok (.aload_n 2, 1) := by decide +kernel
theorem dL_law_809 : decode cL_law 809 = .ok (.invokevirtual 117, 3) := by decide +kernel
theorem dL_law_812 : decode cL_law 812 = .ok (.if_icmp .eq 159, 3) := by decide +kernel
theorem dL_law_815 : decode cL_law 815 = .ok (.iconst 0, 1) := by decide +kernel
theorem dL_law_816 : decode cL_law 816 = .ok (.ireturn, 1) := by decide +kernel
theorem dL_law_817 : decode cL_law 817 = .ok (.aload_n 1, 1) := by decide +kernel
theorem dL_law_818 : decode cL_law 818 = .ok (.aload_n 0, 1) := by decide +kernel
theorem dL_law_819 : decode cL_law 819 = .ok (.iload_n 3, 1) := by decide +kernel
theorem dL_law_820 : decode cL_law 820 = .ok (.iconst 1, 1) := by decide +kernel
theorem dL_law_821 : decode cL_law 821 = .ok (.iadd, 1) := by decide +kernel
theorem dL_law_822 : decode cL_law 822 = .ok (.iaload, 1) := by decide +kernel
theorem dL_law_823 : decode cL_law 823 = .ok (.aload_n 0, 1) := by decide +kernel
theorem dL_law_824 : decode cL_law 824 = .ok (.iload_n 3, 1) := by decide +kernel
theorem dL_law_825 : decode cL_law 825 = .ok (.iconst 2, 1) := by decide +kernel
theorem dL_law_826 : decode cL_law 826 = .ok (.iadd, 1) := by decide +kernel
theorem dL_law_827 : decode cL_law 827 = .ok (.iaload, 1) := by decide +kernel
theorem dL_law_828 : decode cL_law 828 = .ok (.aload_n 0, 1) := by decide +kernel
theorem dL_law_829 : decode cL_law 829 = .ok (.iload_n 3, 1) := by decide +kernel
theorem dL_law_830 : decode cL_law 830 = .ok (.iconst 3, 1) := by decide +kernel
theorem dL_law_831 : decode cL_law 831 = .ok (.iadd, 1) := by decide +kernel
theorem dL_law_832 : decode cL_law 832 = .ok (.iaload, 1) := by decide +kernel
theorem dL_law_833 : decode cL_law 833 = .ok (.ifCond .eq 7, 3) := by decide +kernel
theorem dL_law_836 : decode cL_law 836 = .ok (.iconst 1, 1) := by decide +kernel
theorem dL_law_837 : decode cL_law 837 = .ok (.goto 4, 3) := by decide +kernel
theorem dL_law_840 : decode cL_law 840 = .ok (.iconst 0, 1) := by decide +kernel
theorem dL_law_841 : decode cL_law 841 = .ok (.invokevirtual 118, 3) := by decide +kernel
theorem dL_law_844 : decode cL_law 844 = .ok (.aload_n 2, 1) := by decide +kernel
theorem dL_law_845 : decode cL_law 845 = .ok (.aload_n 0, 1) := by decide +kernel
theorem dL_law_846 : decode cL_law 846 = .ok (.iload_n 3, 1) := by decide +kernel
theorem dL_law_847 : decode cL_law 847 = .ok (.iconst 1, 1) := by decide +kernel
theorem dL_law_848 : decode cL_law 848 = .ok (.iadd, 1) := by decide +kernel
theorem dL_law_849 : decode cL_law 849 = .ok (.iaload, 1) := by decide +kernel
theorem dL_law_850 : decode cL_law 850 = .ok (.aload_n 0, 1) := by decide +kernel
theorem dL_law_851 : decode cL_law 851 = .ok (.iload_n 3, 1) := by decide +kernel
theorem dL_law_852 : decode cL_law 852 = .ok (.iconst 2, 1) := by decide +kernel
theorem dL_law_853 : decode cL_law 853 = .ok (.iadd, 1) := by decide +kernel
theorem dL_law_854 : decode cL_law 854 = .ok (.iaload, 1) := by decide +kernel
theorem dL_law_855 : decode cL_law 855 = .ok (.aload_n 0, 1) := by decide +kernel
theorem dL_law_856 : decode cL_law 856 = .ok (.iload_n 3, 1) := by decide +kernel
theorem dL_law_857 : decode cL_law 857 = .ok (.iconst 3, 1) := by decide +kernel
theorem dL_law_858 : decode cL_law 858 = .ok (.iadd, 1) := by decide +kernel
theorem dL_law_859 : decode cL_law 859 = .ok (.iaload, 1) := by decide +kernel
theorem dL_law_860 : decode cL_law 860 = .ok (.ifCond .eq 7, 3) := by decide +kernel
theorem dL_law_863 : decode cL_law 863 = .ok (.iconst 1, 1) := by decide +kernel
theorem dL_law_864 : decode cL_law 864 = .ok (.goto 4, 3) := by decide +kernel
theorem dL_law_867 : decode cL_law 867 = .ok (.iconst 0, 1) := by decide +kernel
theorem dL_law_868 : decode cL_law 868 = .ok (.invokevirtual 122, 3) := by decide +kernel
theorem dL_law_871 : decode cL_law 871 = .ok (.if_icmp .eq 100, 3) := by decide +kernel
theorem dL_law_874 : decode cL_law 874 = .ok (.iconst 0, 1) := by decide +kernel
theorem dL_law_875 : decode cL_law 875 = .ok (.ireturn, 1) := by decide +kernel
theorem dL_law_876 : decode cL_law 876 = .ok (.aload_n 1, 1) := by decide +kernel
theorem dL_law_877 : decode cL_law 877 = .ok (.invokevirtual 123, 3) := by decide +kernel
theorem dL_law_880 : decode cL_law 880 = .ok (.aload_n 2, 1) := by decide +kernel
theorem dL_law_881 : decode cL_law 881 = .ok (.invokevirtual 126, 3) := by decide +kernel
theorem dL_law_884 : decode cL_law 884 = .ok (.if_icmp .eq 87, 3) := by decide +kernel
theorem dL_law_887 : decode cL_law 887 = .ok (.iconst 0, 1) := by decide +kernel
theorem dL_law_888 : decode cL_law 888 = .ok (.ireturn, 1) := by decide +kernel
theorem dL_law_889 : decode cL_law 889 = .ok (.aload_n 1, 1) := by decide +kernel
theorem dL_law_890 : decode cL_law 890 = .ok (.invokevirtual 127, 3) := by decide +kernel
theorem dL_law_893 : decode cL_law 893 = .ok (.aload_n 2, 1) := by decide +kernel
theorem dL_law_894 : decode cL_law 894 = .ok (.invokevirtual 130, 3) := by decide +kernel
theorem dL_law_897 : decode cL_law 897 = .ok (.if_icmp .eq 74, 3) := by decide +kernel
theorem dL_law_900 : decode cL_law 900 = .ok (.iconst 0, 1) := by decide +kernel
theorem dL_law_901 : decode cL_law 901 = .ok (.ireturn, 1) := by decide +kernel
theorem dL_law_902 : decode cL_law 902 = .ok (.aload_n 1, 1) := by decide +kernel
theorem dL_law_903 : decode cL_law 903 = .ok (.aload_n 0, 1) := by decide +kernel
theorem dL_law_904 : decode cL_law 904 = .ok (.iload_n 3, 1) := by decide +kernel
theorem dL_law_905 : decode cL_law 905 = .ok (.iconst 1, 1) := by decide +kernel
theorem dL_law_906 : decode cL_law 906 = .ok (.iadd, 1) := by decide +kernel
theorem dL_law_907 : decode cL_law 907 = .ok (.iaload, 1) := by decide +kernel
theorem dL_law_908 : decode cL_law 908 = .ok (.invokevirtual 131, 3) := by decide +kernel
theorem dL_law_911 : decode cL_law 911 = .ok (.aload_n 2, 1) := by decide +kernel
theorem dL_law_912 : decode cL_law 912 = .ok (.aload_n 0, 1) := by decide +kernel
theorem dL_law_913 : decode cL_law 913 = .ok (.iload_n 3, 1) := by decide +kernel
theorem dL_law_914 : decode cL_law 914 = .ok (.iconst 1, 1) := by decide +kernel
theorem dL_law_915 : decode cL_law 915 = .ok (.iadd, 1) := by decide +kernel
theorem dL_law_916 : decode cL_law 916 = .ok (.iaload, 1) := by decide +kernel
theorem dL_law_917 : decode cL_law 917 = .ok (.invokevirtual 134, 3) := by decide +kernel
theorem dL_law_920 : decode cL_law 920 = .ok (.if_icmp .eq 51, 3) := by decide +kernel
theorem dL_law_923 : decode cL_law 923 = .ok (.iconst 0, 1) := by decide +kernel
theorem dL_law_924 : decode cL_law 924 = .ok (.ireturn, 1) := by decide +kernel
theorem dL_law_925 : decode cL_law 925 = .ok (.aload_n 1, 1) := by decide +kernel
theorem dL_law_926 : decode cL_law 926 = .ok (.aload_n 0, 1) := by decide +kernel
theorem dL_law_927 : decode cL_law 927 = .ok (.iload_n 3, 1) := by decide +kernel
theorem dL_law_928 : decode cL_law 928 = .ok (.iconst 1, 1) := by decide +kernel
theorem dL_law_929 : decode cL_law 929 = .ok (.iadd, 1) := by decide +kernel
theorem dL_law_930 : decode cL_law 930 = .ok (.iaload, 1) := by decide +kernel
theorem dL_law_931 : decode cL_law 931 = .ok (.invokevirtual 135, 3) := by decide +kernel
theorem dL_law_934 : decode cL_law 934 = .ok (.aload_n 2, 1) := by decide +kernel
theorem dL_law_935 : decode cL_law 935 = .ok (.aload_n 0, 1) := by decide +kernel
theorem dL_law_936 : decode cL_law 936 = .ok (.iload_n 3, 1) := by decide +kernel
theorem dL_law_937 : decode cL_law 937 = .ok (.iconst 1, 1) := by decide +kernel
theorem dL_law_938 : decode cL_law 938 = .ok (.iadd, 1) := by decide +kernel
theorem dL_law_939 : decode cL_law 939 = .ok (.iaload, 1) := by decide +kernel
theorem dL_law_940 : decode cL_law 940 = .ok (.invokevirtual 138, 3) := by decide +kernel
theorem dL_law_943 : decode cL_law 943 = .ok (.if_icmp .eq 28, 3) := by decide +kernel
theorem dL_law_946 : decode cL_law 946 = .ok (.iconst 0, 1) := by decide +kernel
theorem dL_law_947 : decode cL_law 947 = .ok (.ireturn, 1) := by decide +kernel
theorem dL_law_948 : decode cL_law 948 = .ok (.aload_n 1, 1) := by decide +kernel
theorem dL_law_949 : decode cL_law 949 = .ok (.aload_n 0, 1) := by decide +kernel
theorem dL_law_950 : decode cL_law 950 = .ok (.iload_n 3, 1) := by decide +kernel
theorem dL_law_951 : decode cL_law 951 = .ok (.iconst 1, 1) := by decide +kernel
theorem dL_law_952 : decode cL_law 952 = .ok (.iadd, 1) := by decide +kernel
theorem dL_law_953 : decode cL_law 953 = .ok (.iaload, 1) := by decide +kernel
theorem dL_law_954 : decode cL_law 954 = .ok (.invokevirtual 139, 3) := by decide +kernel
theorem dL_law_957 : decode cL_law 957 = .ok (.aload_n 2, 1) := by decide +kernel
theorem dL_law_958 : decode cL_law 958 = .ok (.aload_n 0, 1) := by decide +kernel
theorem dL_law_959 : decode cL_law 959 = .ok (.iload_n 3, 1) := by decide +kernel
theorem dL_law_960 : decode cL_law 960 = .ok (.iconst 1, 1) := by decide +kernel
theorem dL_law_961 : decode cL_law 961 = .ok (.iadd, 1) := by decide +kernel
theorem dL_law_962 : decode cL_law 962 = .ok (.iaload, 1) := by decide +kernel
theorem dL_law_963 : decode cL_law 963 = .ok (.invokevirtual 142, 3) := by decide +kernel
theorem dL_law_966 : decode cL_law 966 = .ok (.if_icmp .eq 5, 3) := by decide +kernel
theorem dL_law_969 : decode cL_law 969 = .ok (.iconst 0, 1) := by decide +kernel
theorem dL_law_970 : decode cL_law 970 = .ok (.ireturn, 1) := by decide +kernel
theorem dL_law_971 : decode cL_law 971 = .ok (.iinc 3 6, 3) := by decide +kernel
theorem dL_law_974 : decode cL_law 974 = .ok (.goto (-956), 3) := by decide +kernel
theorem dL_law_977 : decode cL_law 977 = .ok (.iconst 1, 1) := by decide +kernel
theorem dL_law_978 : decode cL_law 978 = .ok (.ireturn, 1) := by decide +kernel
theorem dX0_init_0 : decode cX0_init 0 = .ok (.aload_n 0, 1) := by decide +kernel
theorem dX0_init_1 : decode cX0_init 1 = .ok (.invokespecial 3, 3) := by decide +kernel
theorem dX0_init_4 : decode cX0_init 4 = .ok (.aload_n 0, 1) := by decide +kernel
theorem dX0_init_5 : decode cX0_init 5 = .ok (.bipush 20, 2) := by decide +kernel
theorem dX0_init_7 : decode cX0_init 7 = .ok (.newarray .int, 2) := by decide +kernel
theorem dX0_init_9 : decode cX0_init 9 = .ok (.putfield 9, 3) := by decide +kernel
theorem dX0_init_12 : decode cX0_init 12 = .ok (.aload_n 0, 1) := by decide +kernel
theorem dX0_init_13 : decode cX0_init 13 = .ok (.bipush 20, 2) := by decide +kernel
theorem dX0_init_15 : decode cX0_init 15 = .ok (.newarray .int, 2) := by decide +kernel
theorem dX0_init_17 : decode cX0_init 17 = .ok (.putfield 15, 3) := by decide +kernel
theorem dX0_init_20 : decode cX0_init 20 = .ok (.aload_n 0, 1) := by decide +kernel
theorem dX0_init_21 : decode cX0_init 21 = .ok (.bipush 20, 2) := by decide +kernel
theorem dX0_init_23 : decode cX0_init 23 = .ok (.newarray .boolean, 2) := by decide +kernel
theorem dX0_init_25 : decode cX0_init 25 = .ok (.putfield 18, 3) := by decide +kernel
theorem dX0_init_28 : decode cX0_init 28 = .ok (.return_, 1) := by decide +kernel
theorem dX0_clear_0 : decode cX0_clear 0 = .ok (.aload_n 0, 1) := by decide +kernel
theorem dX0_clear_1 : decode cX0_clear 1 = .ok (.iconst 0, 1) := by decide +kernel
theorem dX0_clear_2 : decode cX0_clear 2 = .ok (.putfield 22, 3) := by decide +kernel
theorem dX0_clear_5 : decode cX0_clear 5 = .ok (.return_, 1) := by decide +kernel
theorem dX0_add_0 : decode cX0_add 0 = .ok (.aload_n 0, 1) := by decide +kernel
theorem dX0_add_1 : decode cX0_add 1 = .ok (.getfield 22, 3) := by decide +kernel
theorem dX0_add_4 : decode cX0_add 4 = .ok (.bipush 20, 2) := by decide +kernel
theorem dX0_add_6 : decode cX0_add 6 = .ok (.if_icmp .ge 43, 3) := by decide +kernel
theorem dX0_add_9 : decode cX0_add 9 = .ok (.aload_n 0, 1) := by decide +kernel
theorem dX0_add_10 : decode cX0_add 10 = .ok (.getfield 9, 3) := by decide +kernel
theorem dX0_add_13 : decode cX0_add 13 = .ok (.aload_n 0, 1) := by decide +kernel
theorem dX0_add_14 : decode cX0_add 14 = .ok (.getfield 22, 3) := by decide +kernel
theorem dX0_add_17 : decode cX0_add 17 = .ok (.iload_n 1, 1) := by decide +kernel
theorem dX0_add_18 : decode cX0_add 18 = .ok (.iastore, 1) := by decide +kernel
theorem dX0_add_19 : decode cX0_add 19 = .ok (.aload_n 0, 1) := by decide +kernel
theorem dX0_add_20 : decode cX0_add 20 = .ok (.getfield 15, 3) := by decide +kernel
theorem dX0_add_23 : decode cX0_add 23 = .ok (.aload_n 0, 1) := by decide +kernel
theorem dX0_add_24 : decode cX0_add 24 = .ok (.getfield 22, 3) := by decide +kernel
theorem dX0_add_27 : decode cX0_add 27 = .ok (.iload_n 2, 1) := by decide +kernel
theorem dX0_add_28 : decode cX0_add 28 = .ok (.iastore, 1) := by decide +kernel
theorem dX0_add_29 : decode cX0_add 29 = .ok (.aload_n 0, 1) := by decide +kernel
theorem dX0_add_30 : decode cX0_add 30 = .ok (.getfield 18, 3) := by decide +kernel
theorem dX0_add_33 : decode cX0_add 33 = .ok (.aload_n 0, 1) := by decide +kernel
theorem dX0_add_34 : decode cX0_add 34 = .ok (.getfield 22, 3) := by decide +kernel
theorem dX0_add_37 : decode cX0_add 37 = .ok (.iload_n 3, 1) := by decide +kernel
theorem dX0_add_38 : decode cX0_add 38 = .ok (.bastore, 1) := by decide +kernel
theorem dX0_add_39 : decode cX0_add 39 = .ok (.aload_n 0, 1) := by decide +kernel
theorem dX0_add_40 : decode cX0_add 40 = .ok (.dup, 1) := by decide +kernel
theorem dX0_add_41 : decode cX0_add 41 = .ok (.getfield 22, 3) := by decide +kernel
theorem dX0_add_44 : decode cX0_add 44 = .ok (.iconst 1, 1) := by decide +kernel
theorem dX0_add_45 : decode cX0_add 45 = .ok (.iadd, 1) := by decide +kernel
theorem dX0_add_46 : decode cX0_add 46 = .ok (.putfield 22, 3) := by decide +kernel
theorem dX0_add_49 : decode cX0_add 49 = .ok (.aload_n 0, 1) := by decide +kernel
theorem dX0_add_50 : decode cX0_add 50 = .ok (.getfield 22, 3) := by decide +kernel
theorem dX0_add_53 : decode cX0_add 53 = .ok (.ireturn, 1) := by decide +kernel
theorem dX0_firstWrong_0 : decode cX0_firstWrong 0 = .ok (.iconst 0, 1) := by decide +kernel
theorem dX0_firstWrong_1 : decode cX0_firstWrong 1 = .ok (.istore_n 2, 1) := by decide +kernel
theorem dX0_firstWrong_2 : decode cX0_firstWrong 2 = .ok (.iload_n 2, 1) := by decide +kernel
theorem dX0_firstWrong_3 : decode cX0_firstWrong 3 = .ok (.aload_n 0, 1) := by decide +kernel
theorem dX0_firstWrong_4 : decode cX0_firstWrong 4 = .ok (.getfield 22, 3) := by decide +kernel
theorem dX0_firstWrong_7 : decode cX0_firstWrong 7 = .ok (.if_icmp .ge 51, 3) := by decide +kernel
theorem dX0_firstWrong_10 : decode cX0_firstWrong 10 = .ok (.aload_n 1, 1) := by decide +kernel
theorem dX0_firstWrong_11 : decode cX0_firstWrong 11 = .ok (.aload_n 0, 1) := by decide +kernel
theorem dX0_firstWrong_12 : decode cX0_firstWrong 12 = .ok (.getfield 9, 3) := by decide +kernel
theorem dX0_firstWrong_15 : decode cX0_firstWrong 15 = .ok (.iload_n 2, 1) := by decide +kernel
theorem dX0_firstWrong_16 : decode cX0_firstWrong 16 = .ok (.iaload, 1) := by decide +kernel
theorem dX0_firstWrong_17 : decode cX0_firstWrong 17 = .ok (.invokevirtual 26, 3) := by decide +kernel
theorem dX0_firstWrong_20 : decode cX0_firstWrong 20 = .ok (.ifCond .eq 5, 3) := by decide +kernel
theorem dX0_firstWrong_23 : decode cX0_firstWrong 23 = .ok (.iload_n 2, 1) := by decide +kernel
theorem dX0_firstWrong_24 : decode cX0_firstWrong 24 = .ok (.ireturn, 1) := by decide +kernel
theorem dX0_firstWrong_25 : decode cX0_firstWrong 25 = .ok (.aload_n 1, 1) := by decide +kernel
theorem dX0_firstWrong_26 : decode cX0_firstWrong 26 = .ok (.aload_n 0, 1) := by decide +kernel
theorem dX0_firstWrong_27 : decode cX0_firstWrong 27 = .ok (.getfield 9, 3) := by decide +kernel
theorem dX0_firstWrong_30 : decode cX0_firstWrong 30 = .ok (.iload_n 2, 1) := by decide +kernel
theorem dX0_firstWrong_31 : decode cX0_firstWrong 31 = .ok (.iaload, 1) := by decide +kernel
theorem dX0_firstWrong_32 : decode cX0_firstWrong 32 = .ok (.aload_n 0, 1) := by decide +kernel
theorem dX0_firstWrong_33 : decode cX0_firstWrong 33 = .ok (.getfield 15, 3) := by decide +kernel
theorem dX0_firstWrong_36 : decode cX0_firstWrong 36 = .ok (.iload_n 2, 1) := by decide +kernel
theorem dX0_firstWrong_37 : decode cX0_firstWrong 37 = .ok (.iaload, 1) := by decide +kernel
theorem dX0_firstWrong_38 : decode cX0_firstWrong 38 = .ok (.invokevirtual 32, 3) := by decide +kernel
theorem dX0_firstWrong_41 : decode cX0_firstWrong 41 = .ok (.aload_n 0, 1) := by decide +kernel
theorem dX0_firstWrong_42 : decode cX0_firstWrong 42 = .ok (.getfield 18, 3) := by decide +kernel
theorem dX0_firstWrong_45 : decode cX0_firstWrong 45 = .ok (.iload_n 2, 1) := by decide +kernel
theorem dX0_firstWrong_46 : decode cX0_firstWrong 46 = .ok (.baload, 1) := by decide +kernel
theorem dX0_firstWrong_47 : decode cX0_firstWrong 47 = .ok (.if_icmp .eq 5, 3) := by decide +kernel
theorem dX0_firstWrong_50 : decode cX0_firstWrong 50 = .ok (.iload_n 2, 1) := by decide +kernel
theorem dX0_firstWrong_51 : decode cX0_firstWrong 51 = .ok (.ireturn, 1) := by decide +kernel
theorem dX0_firstWrong_52 : decode cX0_firstWrong 52 = .ok (.iinc 2 1, 3) := by decide +kernel
theorem dX0_firstWrong_55 : decode cX0_firstWrong 55 = .ok (.goto (-53), 3) := by decide +kernel
theorem dX0_firstWrong_58 : decode cX0_firstWrong 58 = .ok (.iconst (-1), 1) := by decide +kernel
theorem dX0_firstWrong_59 : decode cX0_firstWrong 59 = .ok (.ireturn, 1) := by decide +kernel
theorem dX1_init_0 : decode cX1_init 0 = .ok (.aload_n 0, 1) := by decide +kernel
theorem dX1_init_1 : decode cX1_init 1 = .ok (.invokespecial 3, 3) := by decide +kernel
theorem dX1_init_4 : decode cX1_init 4 = .ok (.aload_n 0, 1) := by decide +kernel
theorem dX1_init_5 : decode cX1_init 5 = .ok (.bipush 6, 2) := by decide +kernel
theorem dX1_init_7 : decode cX1_init 7 = .ok (.newarray .boolean, 2) := by decide +kernel
theorem dX1_init_9 : decode cX1_init 9 = .ok (.putfield 9, 3) := by decide +kernel
theorem dX1_init_12 : decode cX1_init 12 = .ok (.aload_n 0, 1) := by decide +kernel
theorem dX1_init_13 : decode cX1_init 13 = .ok (.bipush 6, 2) := by decide +kernel
theorem dX1_init_15 : decode cX1_init 15 = .ok (.newarray .boolean, 2) := by decide +kernel
theorem dX1_init_17 : decode cX1_init 17 = .ok (.putfield 15, 3) := by decide +kernel
theorem dX1_init_20 : decode cX1_init 20 = .ok (.aload_n 0, 1) := by decide +kernel
theorem dX1_init_21 : decode cX1_init 21 = .ok (.bipush 6, 2) := by decide +kernel
theorem dX1_init_23 : decode cX1_init 23 = .ok (.newarray .int, 2) := by decide +kernel
theorem dX1_init_25 : decode cX1_init 25 = .ok (.putfield 18, 3) := by decide +kernel
theorem dX1_init_28 : decode cX1_init 28 = .ok (.aload_n 0, 1) := by decide +kernel
theorem dX1_init_29 : decode cX1_init 29 = .ok (.bipush 6, 2) := by decide +kernel
theorem dX1_init_31 : decode cX1_init 31 = .ok (.newarray .int, 2) := by decide +kernel
theorem dX1_init_33 : decode cX1_init 33 = .ok (.putfield 22, 3) := by decide +kernel
theorem dX1_init_36 : decode cX1_init 36 = .ok (.aload_n 0, 1) := by decide +kernel
theorem dX1_init_37 : decode cX1_init 37 = .ok (.aload_n 1, 1) := by decide +kernel
theorem dX1_init_38 : decode cX1_init 38 = .ok (.putfield 25, 3) := by decide +kernel
theorem dX1_init_41 : decode cX1_init 41 = .ok (.return_, 1) := by decide +kernel
theorem dX1_find_0 : decode cX1_find 0 = .ok (.aload_n 0, 1) := by decide +kernel
theorem dX1_find_1 : decode cX1_find 1 = .ok (.aload_n 1, 1) := by decide +kernel
theorem dX1_find_2 : decode cX1_find 2 = .ok (.iload_n 2, 1) := by decide +kernel
theorem dX1_find_3 : decode cX1_find 3 = .ok (.invokevirtual 29, 3) := by decide +kernel
theorem dX1_find_6 : decode cX1_find 6 = .ok (.ifCond .eq 7, 3) := by decide +kernel
theorem dX1_find_9 : decode cX1_find 9 = .ok (.iconst 0, 1) := by decide +kernel
theorem dX1_find_10 : decode cX1_find 10 = .ok (.goto 4, 3) := by decide +kernel
theorem dX1_find_13 : decode cX1_find 13 = .ok (.iconst (-1), 1) := by decide +kernel
theorem dX1_find_14 : decode cX1_find 14 = .ok (.putfield 35, 3) := by decide +kernel
theorem dX1_find_17 : decode cX1_find 17 = .ok (.aload_n 0, 1) := by decide +kernel
theorem dX1_find_18 : decode cX1_find 18 = .ok (.getfield 35, 3) := by decide +kernel
theorem dX1_find_21 : decode cX1_find 21 = .ok (.ifCond .ne 4, 3) := by decide +kernel
theorem dX1_find_24 : decode cX1_find 24 = .ok (.return_, 1) := by decide +kernel
theorem dX1_find_25 : decode cX1_find 25 = .ok (.iconst 0, 1) := by decide +kernel
theorem dX1_find_26 : decode cX1_find 26 = .ok (.istore_n 3, 1) := by decide +kernel
theorem dX1_find_27 : decode cX1_find 27 = .ok (.iload_n 3, 1) := by decide +kernel
theorem dX1_find_28 : decode cX1_find 28 = .ok (.aload_n 0, 1) := by decide +kernel
theorem dX1_find_29 : decode cX1_find 29 = .ok (.getfield 25, 3) := by decide +kernel
theorem dX1_find_32 : decode cX1_find 32 = .ok (.getfield 39, 3) := by decide +kernel
theorem dX1_find_35 : decode cX1_find 35 = .ok (.if_icmp .ge 56, 3) := by decide +kernel
theorem dX1_find_38 : decode cX1_find 38 = .ok (.aload_n 0, 1) := by decide +kernel
theorem dX1_find_39 : decode cX1_find 39 = .ok (.getfield 9, 3) := by decide +kernel
theorem dX1_find_42 : decode cX1_find 42 = .ok (.iload_n 3, 1) := by decide +kernel
theorem dX1_find_43 : decode cX1_find 43 = .ok (.aload_n 1, 1) := by decide +kernel
theorem dX1_find_44 : decode cX1_find 44 = .ok (.iload_n 3, 1) := by decide +kernel
theorem dX1_find_45 : decode cX1_find 45 = .ok (.invokevirtual 44, 3) := by decide +kernel
theorem dX1_find_48 : decode cX1_find 48 = .ok (.bastore, 1) := by decide +kernel
theorem dX1_find_49 : decode cX1_find 49 = .ok (.aload_n 0, 1) := by decide +kernel
theorem dX1_find_50 : decode cX1_find 50 = .ok (.getfield 15, 3) := by decide +kernel
theorem dX1_find_53 : decode cX1_find 53 = .ok (.iload_n 3, 1) := by decide +kernel
theorem dX1_find_54 : decode cX1_find 54 = .ok (.aload_n 1, 1) := by decide +kernel
theorem dX1_find_55 : decode cX1_find 55 = .ok (.iload_n 3, 1) := by decide +kernel
theorem dX1_find_56 : decode cX1_find 56 = .ok (.invokevirtual 29, 3) := by decide +kernel
theorem dX1_find_59 : decode cX1_find 59 = .ok (.ifCond .ne 24, 3) := by decide +kernel
theorem dX1_find_62 : decode cX1_find 62 = .ok (.aload_n 0, 1) := by decide +kernel
theorem dX1_find_63 : decode cX1_find 63 = .ok (.getfield 9, 3) := by decide +kernel
theorem dX1_find_66 : decode cX1_find 66 = .ok (.iload_n 3, 1) := by decide +kernel
theorem dX1_find_67 : decode cX1_find 67 = .ok (.baload, 1) := by decide +kernel
theorem dX1_find_68 : decode cX1_find 68 = .ok (.ifCond .ne 11, 3) := by decide +kernel
theorem dX1_find_71 : decode cX1_find 71 = .ok (.aload_n 1, 1) := by decide +kernel
theorem dX1_find_72 : decode cX1_find 72 = .ok (.iload_n 3, 1) := by decide +kernel
theorem dX1_find_73 : decode cX1_find 73 = .ok (.invokevirtual 47, 3) := by decide +kernel
theorem dX1_find_76 : decode cX1_find 76 = .ok (.ifCond .eq 7, 3) := by decide +kernel
theorem dX1_find_79 : decode cX1_find 79 = .ok (.iconst 1, 1) := by decide +kernel
theorem dX1_find_80 : decode cX1_find 80 = .ok (.goto 4, 3) := by decide +kernel
theorem dX1_find_83 : decode cX1_find 83 = .ok (.iconst 0, 1) := by decide +kernel
theorem dX1_find_84 : decode cX1_find 84 = .ok (.bastore, 1) := by decide +kernel
theorem dX1_find_85 : decode cX1_find 85 = .ok (.iinc 3 1, 3) := by decide +kernel
theorem dX1_find_88 : decode cX1_find 88 = .ok (.goto (-61), 3) := by decide +kernel
theorem dX1_find_91 : decode cX1_find 91 = .ok (.aload_n 0, 1) := by decide +kernel
theorem dX1_find_92 : decode cX1_find 92 = .ok (.iload_n 2, 1) := by decide +kernel
theorem dX1_find_93 : decode cX1_find 93 = .ok (.invokevirtual 50, 3) := by decide +kernel
theorem dX1_find_96 : decode cX1_find 96 = .ok (.aload_n 0, 1) := by decide +kernel
theorem dX1_find_97 : decode cX1_find 97 = .ok (.iconst (-1), 1) := by decide +kernel
theorem dX1_find_98 : decode cX1_find 98 = .ok (.invokevirtual 54, 3) := by decide +kernel
theorem dX1_find_101 : decode cX1_find 101 = .ok (.istore_n 3, 1) := by decide +kernel
theorem dX1_find_102 : decode cX1_find 102 = .ok (.iload_n 3, 1) := by decide +kernel
theorem dX1_find_103 : decode cX1_find 103 = .ok (.iconst (-1), 1) := by decide +kernel
theorem dX1_find_104 : decode cX1_find 104 = .ok (.if_icmp .ne 4, 3) := by decide +kernel
theorem dX1_find_107 : decode cX1_find 107 = .ok (.return_, 1) := by decide +kernel
theorem dX1_find_108 : decode cX1_find 108 = .ok (.aload_n 0, 1) := by decide +kernel
theorem dX1_find_109 : decode cX1_find 109 = .ok (.aload_n 0, 1) := by decide +kernel
theorem dX1_find_110 : decode cX1_find 110 = .ok (.getfield 18, 3) := by decide +kernel
theorem dX1_find_113 : decode cX1_find 113 = .ok (.iload_n 3, 1) := by decide +kernel
theorem dX1_find_114 : decode cX1_find 114 = .ok (.iaload, 1) := by decide +kernel
theorem dX1_find_115 : decode cX1_find 115 = .ok (.iconst 1, 1) := by decide +kernel
theorem dX1_find_116 : decode cX1_find 116 = .ok (.iadd, 1) := by decide +kernel
theorem dX1_find_117 : decode cX1_find 117 = .ok (.putfield 35, 3) := by decide +kernel
theorem dX1_find_120 : decode cX1_find 120 = .ok (.iconst 0, 1) := by decide +kernel
theorem dX1_find_121 : decode cX1_find 121 = .ok (.istore 4, 2) := by decide +kernel
theorem dX1_find_123 : decode cX1_find 123 = .ok (.iload 4, 2) := by decide +kernel
theorem dX1_find_125 : decode cX1_find 125 = .ok (.aload_n 0, 1) := by decide +kernel
theorem dX1_find_126 : decode cX1_find 126 = .ok (.getfield 35, 3) := by decide +kernel
theorem dX1_find_129 : decode cX1_find 129 = .ok (.if_icmp .ge 35, 3) := by decide +kernel
theorem dX1_find_132 : decode cX1_find 132 = .ok (.iload 4, 2) := by decide +kernel
theorem dX1_find_134 : decode cX1_find 134 = .ok (.bipush 6, 2) := by decide +kernel
theorem dX1_find_136 : decode cX1_find 136 = .ok (.if_icmp .ge 28, 3) := by decide +kernel
theorem dX1_find_139 : decode cX1_find 139 = .ok (.iload_n 3, 1) := by decide +kernel
theorem dX1_find_140 : decode cX1_find 140 = .ok (.iconst (-1), 1) := by decide +kernel
theorem dX1_find_141 : decode cX1_find 141 = .ok (.if_icmp .eq 23, 3) := by decide +kernel
theorem dX1_find_144 : decode cX1_find 144 = .ok (.aload_n 0, 1) := by decide +kernel
theorem dX1_find_145 : decode cX1_find 145 = .ok (.getfield 22, 3) := by decide +kernel
theorem dX1_find_148 : decode cX1_find 148 = .ok (.iload 4, 2) := by decide +kernel
theorem dX1_find_150 : decode cX1_find 150 = .ok (.iload_n 3, 1) := by decide +kernel
theorem dX1_find_151 : decode cX1_find 151 = .ok (.iastore, 1) := by decide +kernel
theorem dX1_find_152 : decode cX1_find 152 = .ok (.aload_n 0, 1) := by decide +kernel
theorem dX1_find_153 : decode cX1_find 153 = .ok (.iload_n 3, 1) := by decide +kernel
theorem dX1_find_154 : decode cX1_find 154 = .ok (.invokevirtual 54, 3) := by decide +kernel
theorem dX1_find_157 : decode cX1_find 157 = .ok (.istore_n 3, 1) := by decide +kernel
theorem dX1_find_158 : decode cX1_find 158 = .ok (.iinc 4 1, 3) := by decide +kernel
theorem dX1_find_161 : decode cX1_find 161 = .ok (.goto (-38), 3) := by decide +kernel
theorem dX1_find_164 : decode cX1_find 164 = .ok (.return_, 1) := by decide +kernel
theorem dX1_holderAt_0 : decode cX1_holderAt 0 = .ok (.iload_n 1, 1) := by decide +kernel
theorem dX1_holderAt_1 : decode cX1_holderAt 1 = .ok (.ifCond .lt 26, 3) := by decide +kernel
theorem dX1_holderAt_4 : decode cX1_holderAt 4 = .ok (.iload_n 1, 1) := by decide +kernel
theorem dX1_holderAt_5 : decode cX1_holderAt 5 = .ok (.aload_n 0, 1) := by decide +kernel
theorem dX1_holderAt_6 : decode cX1_holderAt 6 = .ok (.getfield 35, 3) := by decide +kernel
theorem dX1_holderAt_9 : decode cX1_holderAt 9 = .ok (.if_icmp .ge 18, 3) := by decide +kernel
theorem dX1_holderAt_12 : decode cX1_holderAt 12 = .ok (.iload_n 1, 1) := by decide +kernel
theorem dX1_holderAt_13 : decode cX1_holderAt 13 = .ok (.bipush 6, 2) := by decide +kernel
theorem dX1_holderAt_15 : decode cX1_holderAt 15 = .ok (.if_icmp .ge 12, 3) := by decide +kernel
theorem dX1_holderAt_18 : decode cX1_holderAt 18 = .ok (.aload_n 0, 1) := by decide +kernel
theorem dX1_holderAt_19 : decode cX1_holderAt 19 = .ok (.getfield 22, 3) := by decide +kernel
theorem dX1_holderAt_22 : decode cX1_holderAt 22 = .ok (.iload_n 1, 1) := by decide +kernel
theorem dX1_holderAt_23 : decode cX1_holderAt 23 = .ok (.iaload, 1) := by decide +kernel
theorem dX1_holderAt_24 : decode cX1_holderAt 24 = .ok (.goto 4, 3) := by decide +kernel
theorem dX1_holderAt_27 : decode cX1_holderAt 27 = .ok (.iconst (-1), 1) := by decide +kernel
theorem dX1_holderAt_28 : decode cX1_holderAt 28 = .ok (.ireturn, 1) := by decide +kernel
theorem dX1_countSteps_0 : decode cX1_countSteps 0 = .ok (.iconst 0, 1) := by decide +kernel
theorem dX1_countSteps_1 : decode cX1_countSteps 1 = .ok (.istore_n 2, 1) := by decide +kernel
theorem dX1_countSteps_2 : decode cX1_countSteps 2 = .ok (.iload_n 2, 1) := by decide +kernel
theorem dX1_countSteps_3 : decode cX1_countSteps 3 = .ok (.bipush 6, 2) := by decide +kernel
theorem dX1_countSteps_5 : decode cX1_countSteps 5 = .ok (.if_icmp .ge 25, 3) := by decide +kernel
theorem dX1_countSteps_8 : decode cX1_countSteps 8 = .ok (.aload_n 0, 1) := by decide +kernel
theorem dX1_countSteps_9 : decode cX1_countSteps 9 = .ok (.getfield 18, 3) := by decide +kernel
theorem dX1_countSteps_12 : decode cX1_countSteps 12 = .ok (.iload_n 2, 1) := by decide +kernel
theorem dX1_countSteps_13 : decode cX1_countSteps 13 = .ok (.iload_n 2, 1) := by decide +kernel
theorem dX1_countSteps_14 : decode cX1_countSteps 14 = .ok (.iload_n 1, 1) := by decide +kernel
theorem dX1_countSteps_15 : decode cX1_countSteps 15 = .ok (.if_icmp .ne 7, 3) := by decide +kernel
theorem dX1_countSteps_18 : decode cX1_countSteps 18 = .ok (.iconst 0, 1) := by decide +kernel
theorem dX1_countSteps_19 : decode cX1_countSteps 19 = .ok (.goto 4, 3) := by decide +kernel
theorem dX1_countSteps_22 : decode cX1_countSteps 22 = .ok (.iconst (-1), 1) := by decide +kernel
theorem dX1_countSteps_23 : decode cX1_countSteps 23 = .ok (.iastore, 1) := by decide +kernel
theorem dX1_countSteps_24 : decode cX1_countSteps 24 = .ok (.iinc 2 1, 3) := by decide +kernel
theorem dX1_countSteps_27 : decode cX1_countSteps 27 = .ok (.goto (-25), 3) := by decide +kernel
theorem dX1_countSteps_30 : decode cX1_countSteps 30 = .ok (.iconst 1, 1) := by decide +kernel
theorem dX1_countSteps_31 : decode cX1_countSteps 31 = .ok (.istore_n 2, 1) := by decide +kernel
theorem dX1_countSteps_32 : decode cX1_countSteps 32 = .ok (.iload_n 2, 1) := by decide +kernel
theorem dX1_countSteps_33 : decode cX1_countSteps 33 = .ok (.aload_n 0, 1) := by decide +kernel
theorem dX1_countSteps_34 : decode cX1_countSteps 34 = .ok (.getfield 25, 3) := by decide +kernel
theorem dX1_countSteps_37 : decode cX1_countSteps 37 = .ok (.getfield 39, 3) := by decide +kernel
theorem dX1_countSteps_40 : decode cX1_countSteps 40 = .ok (.if_icmp .ge 56, 3) := by decide +kernel
theorem dX1_countSteps_43 : decode cX1_countSteps 43 = .ok (.iconst 0, 1) := by decide +kernel
theorem dX1_countSteps_44 : decode cX1_countSteps 44 = .ok (.istore_n 3, 1) := by decide +kernel
theorem dX1_countSteps_45 : decode cX1_countSteps 45 = .ok (.iload_n 3, 1) := by decide +kernel
theorem dX1_countSteps_46 : decode cX1_countSteps 46 = .ok (.aload_n 0, 1) := by decide +kernel
theorem dX1_countSteps_47 : decode cX1_countSteps 47 = .ok (.getfield 25, 3) := by decide +kernel
theorem dX1_countSteps_50 : decode cX1_countSteps 50 = .ok (.getfield 39, 3) := by decide +kernel
theorem dX1_countSteps_53 : decode cX1_countSteps 53 = .ok (.if_icmp .ge 37, 3) := by decide +kernel
theorem dX1_countSteps_56 : decode cX1_countSteps 56 = .ok (.aload_n 0, 1) := by decide +kernel
theorem dX1_countSteps_57 : decode cX1_countSteps 57 = .ok (.getfield 18, 3) := by decide +kernel
theorem dX1_countSteps_60 : decode cX1_countSteps 60 = .ok (.iload_n 3, 1) := by decide +kernel
theorem dX1_countSteps_61 : decode cX1_countSteps 61 = .ok (.iaload, 1) := by decide +kernel
theorem dX1_countSteps_62 : decode cX1_countSteps 62 = .ok (.iconst (-1), 1) := by decide +kernel
theorem dX1_countSteps_63 : decode cX1_countSteps 63 = .ok (.if_icmp .ne 21, 3) := by decide +kernel
theorem dX1_countSteps_66 : decode cX1_countSteps 66 = .ok (.aload_n 0, 1) := by decide +kernel
theorem dX1_countSteps_67 : decode cX1_countSteps 67 = .ok (.iload_n 3, 1) := by decide +kernel
theorem dX1_countSteps_68 : decode cX1_countSteps 68 = .ok (.iload_n 2, 1) := by decide +kernel
theorem dX1_countSteps_69 : decode cX1_countSteps 69 = .ok (.iconst 1, 1) := by decide +kernel
theorem dX1_countSteps_70 : decode cX1_countSteps 70 = .ok (.isub, 1) := by decide +kernel
theorem dX1_countSteps_71 : decode cX1_countSteps 71 = .ok (.invokevirtual 58, 3) := by decide +kernel
theorem dX1_countSteps_74 : decode cX1_countSteps 74 = .ok (.ifCond .eq 10, 3) := by decide +kernel
theorem dX1_countSteps_77 : decode cX1_countSteps 77 = .ok (.aload_n 0, 1) := by decide +kernel
theorem dX1_countSteps_78 : decode cX1_countSteps 78 = .ok (.getfield 18, 3) := by decide +kernel
theorem dX1_countSteps_81 : decode cX1_countSteps 81 = .ok (.iload_n 3, 1) := by decide +kernel
theorem dX1_countSteps_82 : decode cX1_countSteps 82 = .ok (.iload_n 2, 1) := by decide +kernel
theorem dX1_countSteps_83 : decode cX1_countSteps 83 = .ok (.iastore, 1) := by decide +kernel
theorem dX1_countSteps_84 : decode cX1_countSteps 84 = .ok (.iinc 3 1, 3) := by decide +kernel
theorem dX1_countSteps_87 : decode cX1_countSteps 87 = .ok (.goto (-42), 3) := by decide +kernel
theorem dX1_countSteps_90 : decode cX1_countSteps 90 = .ok (.iinc 2 1, 3) := by decide +kernel
theorem dX1_countSteps_93 : decode cX1_countSteps 93 = .ok (.goto (-61), 3) := by decide +kernel
theorem dX1_countSteps_96 : decode cX1_countSteps 96 = .ok (.return_, 1) := by decide +kernel
theorem dX1_leadsOn_0 : decode cX1_leadsOn 0 = .ok (.iconst 0, 1) := by decide +kernel
theorem dX1_leadsOn_1 : decode cX1_leadsOn 1 = .ok (.istore_n 3, 1) := by decide +kernel
theorem dX1_leadsOn_2 : decode cX1_leadsOn 2 = .ok (.iload_n 3, 1) := by decide +kernel
theorem dX1_leadsOn_3 : decode cX1_leadsOn 3 = .ok (.aload_n 0, 1) := by decide +kernel
theorem dX1_leadsOn_4 : decode cX1_leadsOn 4 = .ok (.getfield 25, 3) := by decide +kernel
theorem dX1_leadsOn_7 : decode cX1_leadsOn 7 = .ok (.getfield 39, 3) := by decide +kernel
theorem dX1_leadsOn_10 : decode cX1_leadsOn 10 = .ok (.if_icmp .ge 30, 3) := by decide +kernel
theorem dX1_leadsOn_13 : decode cX1_leadsOn 13 = .ok (.aload_n 0, 1) := by decide +kernel
theorem dX1_leadsOn_14 : decode cX1_leadsOn 14 = .ok (.getfield 18, 3) := by decide +kernel
theorem dX1_leadsOn_17 : decode cX1_leadsOn 17 = .ok (.iload_n 3, 1) := by decide +kernel
theorem dX1_leadsOn_18 : decode cX1_leadsOn 18 = .ok (.iaload, 1) := by decide +kernel
theorem dX1_leadsOn_19 : decode cX1_leadsOn 19 = .ok (.iload_n 2, 1) := by decide +kernel
theorem dX1_leadsOn_20 : decode cX1_leadsOn 20 = .ok (.if_icmp .ne 14, 3) := by decide +kernel
theorem dX1_leadsOn_23 : decode cX1_leadsOn 23 = .ok (.aload_n 0, 1) := by decide +kernel
theorem dX1_leadsOn_24 : decode cX1_leadsOn 24 = .ok (.iload_n 1, 1) := by decide +kernel
theorem dX1_leadsOn_25 : decode cX1_leadsOn 25 = .ok (.iload_n 3, 1) := by decide +kernel
theorem dX1_leadsOn_26 : decode cX1_leadsOn 26 = .ok (.invokevirtual 62, 3) := by decide +kernel
theorem dX1_leadsOn_29 : decode cX1_leadsOn 29 = .ok (.ifCond .eq 5, 3) := by decide +kernel
theorem dX1_leadsOn_32 : decode cX1_leadsOn 32 = .ok (.iconst 1, 1) := by decide +kernel
theorem dX1_leadsOn_33 : decode cX1_leadsOn 33 = .ok (.ireturn, 1) := by decide +kernel
theorem dX1_leadsOn_34 : decode cX1_leadsOn 34 = .ok (.iinc 3 1, 3) := by decide +kernel
theorem dX1_leadsOn_37 : decode cX1_leadsOn 37 = .ok (.goto (-35), 3) := by decide +kernel
theorem dX1_leadsOn_40 : decode cX1_leadsOn 40 = .ok (.iconst 0, 1) := by decide +kernel
theorem dX1_leadsOn_41 : decode cX1_leadsOn 41 = .ok (.ireturn, 1) := by decide +kernel
theorem dX1_nextOf_0 : decode cX1_nextOf 0 = .ok (.iconst (-1), 1) := by decide +kernel
theorem dX1_nextOf_1 : decode cX1_nextOf 1 = .ok (.istore_n 2, 1) := by decide +kernel
theorem dX1_nextOf_2 : decode cX1_nextOf 2 = .ok (.iconst 0, 1) := by decide +kernel
theorem dX1_nextOf_3 : decode cX1_nextOf 3 = .ok (.istore_n 3, 1) := by decide +kernel
theorem dX1_nextOf_4 : decode cX1_nextOf 4 = .ok (.iload_n 3, 1) := by decide +kernel
theorem dX1_nextOf_5 : decode cX1_nextOf 5 = .ok (.aload_n 0, 1) := by decide +kernel
theorem dX1_nextOf_6 : decode cX1_nextOf 6 = .ok (.getfield 25, 3) := by decide +kernel
theorem dX1_nextOf_9 : decode cX1_nextOf 9 = .ok (.getfield 39, 3) := by decide +kernel
theorem dX1_nextOf_12 : decode cX1_nextOf 12 = .ok (.if_icmp .ge 53, 3) := by decide +kernel
theorem dX1_nextOf_15 : decode cX1_nextOf 15 = .ok (.aload_n 0, 1) := by decide +kernel
theorem dX1_nextOf_16 : decode cX1_nextOf 16 = .ok (.getfield 18, 3) := by decide +kernel
theorem dX1_nextOf_19 : decode cX1_nextOf 19 = .ok (.iload_n 3, 1) := by decide +kernel
theorem dX1_nextOf_20 : decode cX1_nextOf 20 = .ok (.iaload, 1) := by decide +kernel
theorem dX1_nextOf_21 : decode cX1_nextOf 21 = .ok (.iconst (-1), 1) := by decide +kernel
theorem dX1_nextOf_22 : decode cX1_nextOf 22 = .ok (.if_icmp .eq 37, 3) := by decide +kernel
theorem dX1_nextOf_25 : decode cX1_nextOf 25 = .ok (.aload_n 0, 1) := by decide +kernel
theorem dX1_nextOf_26 : decode cX1_nextOf 26 = .ok (.iload_n 1, 1) := by decide +kernel
theorem dX1_nextOf_27 : decode cX1_nextOf 27 = .ok (.iload_n 3, 1) := by decide +kernel
theorem dX1_nextOf_28 : decode cX1_nextOf 28 = .ok (.invokevirtual 62, 3) := by decide +kernel
theorem dX1_nextOf_31 : decode cX1_nextOf 31 = .ok (.ifCond .ne 6, 3) := by decide +kernel
theorem dX1_nextOf_34 : decode cX1_nextOf 34 = .ok (.goto 25, 3) := by decide +kernel
theorem dX1_nextOf_37 : decode cX1_nextOf 37 = .ok (.iload_n 2, 1) := by decide +kernel
theorem dX1_nextOf_38 : decode cX1_nextOf 38 = .ok (.iconst (-1), 1) := by decide +kernel
theorem dX1_nextOf_39 : decode cX1_nextOf 39 = .ok (.if_icmp .eq 18, 3) := by decide +kernel
theorem dX1_nextOf_42 : decode cX1_nextOf 42 = .ok (.aload_n 0, 1) := by decide +kernel
theorem dX1_nextOf_43 : decode cX1_nextOf 43 = .ok (.getfield 18, 3) := by decide +kernel
theorem dX1_nextOf_46 : decode cX1_nextOf 46 = .ok (.iload_n 3, 1) := by decide +kernel
theorem dX1_nextOf_47 : decode cX1_nextOf 47 = .ok (.iaload, 1) := by decide +kernel
theorem dX1_nextOf_48 : decode cX1_nextOf 48 = .ok (.aload_n 0, 1) := by decide +kernel
theorem dX1_nextOf_49 : decode cX1_nextOf 49 = .ok (.getfield 18, 3) := by decide +kernel
theorem dX1_nextOf_52 : decode cX1_nextOf 52 = .ok (.iload_n 2, 1) := by decide +kernel
theorem dX1_nextOf_53 : decode cX1_nextOf 53 = .ok (.iaload, 1) := by decide +kernel
theorem dX1_nextOf_54 : decode cX1_nextOf 54 = .ok (.if_icmp .ge 5, 3) := by decide +kernel
theorem dX1_nextOf_57 : decode cX1_nextOf 57 = .ok (.iload_n 3, 1) := by decide +kernel
theorem dX1_nextOf_58 : decode cX1_nextOf 58 = .ok (.istore_n 2, 1) := by decide +kernel
theorem dX1_nextOf_59 : decode cX1_nextOf 59 = .ok (.iinc 3 1, 3) := by decide +kernel
theorem dX1_nextOf_62 : decode cX1_nextOf 62 = .ok (.goto (-58), 3) := by decide +kernel
theorem dX1_nextOf_65 : decode cX1_nextOf 65 = .ok (.iload_n 2, 1) := by decide +kernel
theorem dX1_nextOf_66 : decode cX1_nextOf 66 = .ok (.ireturn, 1) := by decide +kernel
theorem dX1_isStep_0 : decode cX1_isStep 0 = .ok (.iload_n 1, 1) := by decide +kernel
theorem dX1_isStep_1 : decode cX1_isStep 1 = .ok (.iconst (-1), 1) := by decide +kernel
theorem dX1_isStep_2 : decode cX1_isStep 2 = .ok (.if_icmp .ne 10, 3) := by decide +kernel
theorem dX1_isStep_5 : decode cX1_isStep 5 = .ok (.aload_n 0, 1) := by decide +kernel
theorem dX1_isStep_6 : decode cX1_isStep 6 = .ok (.getfield 15, 3) := by decide +kernel
theorem dX1_isStep_9 : decode cX1_isStep 9 = .ok (.iload_n 2, 1) := by decide +kernel
theorem dX1_isStep_10 : decode cX1_isStep 10 = .ok (.baload, 1) := by decide +kernel
theorem dX1_isStep_11 : decode cX1_isStep 11 = .ok (.ireturn, 1) := by decide +kernel
theorem dX1_isStep_12 : decode cX1_isStep 12 = .ok (.iload_n 1, 1) := by decide +kernel
theorem dX1_isStep_13 : decode cX1_isStep 13 = .ok (.iload_n 2, 1) := by decide +kernel
theorem dX1_isStep_14 : decode cX1_isStep 14 = .ok (.if_icmp .eq 28, 3) := by decide +kernel
theorem dX1_isStep_17 : decode cX1_isStep 17 = .ok (.aload_n 0, 1) := by decide +kernel
theorem dX1_isStep_18 : decode cX1_isStep 18 = .ok (.getfield 9, 3) := by decide +kernel
theorem dX1_isStep_21 : decode cX1_isStep 21 = .ok (.iload_n 2, 1) := by decide +kernel
theorem dX1_isStep_22 : decode cX1_isStep 22 = .ok (.baload, 1) := by decide +kernel
theorem dX1_isStep_23 : decode cX1_isStep 23 = .ok (.ifCond .ne 15, 3) := by decide +kernel
theorem dX1_isStep_26 : decode cX1_isStep 26 = .ok (.aload_n 0, 1) := by decide +kernel
theorem dX1_isStep_27 : decode cX1_isStep 27 = .ok (.getfield 25, 3) := by decide +kernel
theorem dX1_isStep_30 : decode cX1_isStep 30 = .ok (.iload_n 2, 1) := by decide +kernel
theorem dX1_isStep_31 : decode cX1_isStep 31 = .ok (.iload_n 1, 1) := by decide +kernel
theorem dX1_isStep_32 : decode cX1_isStep 32 = .ok (.invokevirtual 65, 3) := by decide +kernel
theorem dX1_isStep_35 : decode cX1_isStep 35 = .ok (.ifCond .eq 7, 3) := by decide +kernel
theorem dX1_isStep_38 : decode cX1_isStep 38 = .ok (.iconst 1, 1) := by decide +kernel
theorem dX1_isStep_39 : decode cX1_isStep 39 = .ok (.goto 4, 3) := by decide +kernel
theorem dX1_isStep_42 : decode cX1_isStep 42 = .ok (.iconst 0, 1) := by decide +kernel
theorem dX1_isStep_43 : decode cX1_isStep 43 = .ok (.ireturn, 1) := by decide +kernel
theorem dX2_init_0 : decode cX2_init 0 = .ok (.aload_n 0, 1) := by decide +kernel
theorem dX2_init_1 : decode cX2_init 1 = .ok (.invokespecial 3, 3) := by decide +kernel
theorem dX2_init_4 : decode cX2_init 4 = .ok (.aload_n 0, 1) := by decide +kernel
theorem dX2_init_5 : decode cX2_init 5 = .ok (.bipush 64, 2) := by decide +kernel
theorem dX2_init_7 : decode cX2_init 7 = .ok (.newarray .int, 2) := by decide +kernel
theorem dX2_init_9 : decode cX2_init 9 = .ok (.putfield 11, 3) := by decide +kernel
theorem dX2_init_12 : decode cX2_init 12 = .ok (.aload_n 0, 1) := by decide +kernel
theorem dX2_init_13 : decode cX2_init 13 = .ok (.bipush 64, 2) := by decide +kernel
theorem dX2_init_15 : decode cX2_init 15 = .ok (.newarray .int, 2) := by decide +kernel
theorem dX2_init_17 : decode cX2_init 17 = .ok (.putfield 15, 3) := by decide +kernel
theorem dX2_init_20 : decode cX2_init 20 = .ok (.aload_n 0, 1) := by decide +kernel
theorem dX2_init_21 : decode cX2_init 21 = .ok (.aload_n 1, 1) := by decide +kernel
theorem dX2_init_22 : decode cX2_init 22 = .ok (.putfield 18, 3) := by decide +kernel
theorem dX2_init_25 : decode cX2_init 25 = .ok (.return_, 1) := by decide +kernel
theorem dX2_ofOne_0 : decode cX2_ofOne 0 = .ok (.iconst 0, 1) := by decide +kernel
theorem dX2_ofOne_1 : decode cX2_ofOne 1 = .ok (.istore_n 3, 1) := by decide +kernel
theorem dX2_ofOne_2 : decode cX2_ofOne 2 = .ok (.iconst 0, 1) := by decide +kernel
theorem dX2_ofOne_3 : decode cX2_ofOne 3 = .ok (.istore 4, 2) := by decide +kernel
theorem dX2_ofOne_5 : decode cX2_ofOne 5 = .ok (.iload 4, 2) := by decide +kernel
theorem dX2_ofOne_7 : decode cX2_ofOne 7 = .ok (.aload_n 0, 1) := by decide +kernel
theorem dX2_ofOne_8 : decode cX2_ofOne 8 = .ok (.getfield 18, 3) := by decide +kernel
theorem dX2_ofOne_11 : decode cX2_ofOne 11 = .ok (.getfield 22, 3) := by decide +kernel
theorem dX2_ofOne_14 : decode cX2_ofOne 14 = .ok (.if_icmp .ge 19, 3) := by decide +kernel
theorem dX2_ofOne_17 : decode cX2_ofOne 17 = .ok (.iload_n 3, 1) := by decide +kernel
theorem dX2_ofOne_18 : decode cX2_ofOne 18 = .ok (.aload_n 1, 1) := by decide +kernel
theorem dX2_ofOne_19 : decode cX2_ofOne 19 = .ok (.getfield 28, 3) := by decide +kernel
theorem dX2_ofOne_22 : decode cX2_ofOne 22 = .ok (.iload 4, 2) := by decide +kernel
theorem dX2_ofOne_24 : decode cX2_ofOne 24 = .ok (.iaload, 1) := by decide +kernel
theorem dX2_ofOne_25 : decode cX2_ofOne 25 = .ok (.iadd, 1) := by decide +kernel
theorem dX2_ofOne_26 : decode cX2_ofOne 26 = .ok (.istore_n 3, 1) := by decide +kernel
theorem dX2_ofOne_27 : decode cX2_ofOne 27 = .ok (.iinc 4 1, 3) := by decide +kernel
theorem dX2_ofOne_30 : decode cX2_ofOne 30 = .ok (.goto (-25), 3) := by decide +kernel
theorem dX2_ofOne_33 : decode cX2_ofOne 33 = .ok (.aload_n 1, 1) := by decide +kernel
theorem dX2_ofOne_34 : decode cX2_ofOne 34 = .ok (.getfield 28, 3) := by decide +kernel
theorem dX2_ofOne_37 : decode cX2_ofOne 37 = .ok (.iload_n 2, 1) := by decide +kernel
theorem dX2_ofOne_38 : decode cX2_ofOne 38 = .ok (.iaload, 1) := by decide +kernel
theorem dX2_ofOne_39 : decode cX2_ofOne 39 = .ok (.aload_n 0, 1) := by decide +kernel
theorem dX2_ofOne_40 : decode cX2_ofOne 40 = .ok (.getfield 18, 3) := by decide +kernel
theorem dX2_ofOne_43 : decode cX2_ofOne 43 = .ok (.getfield 22, 3) := by decide +kernel
theorem dX2_ofOne_46 : decode cX2_ofOne 46 = .ok (.imul, 1) := by decide +kernel
theorem dX2_ofOne_47 : decode cX2_ofOne 47 = .ok (.iload_n 3, 1) := by decide +kernel
theorem dX2_ofOne_48 : decode cX2_ofOne 48 = .ok (.isub, 1) := by decide +kernel
theorem dX2_ofOne_49 : decode cX2_ofOne 49 = .ok (.ireturn, 1) := by decide +kernel
theorem dX2_ofLine_0 : decode cX2_ofLine 0 = .ok (.iconst 0, 1) := by decide +kernel
theorem dX2_ofLine_1 : decode cX2_ofLine 1 = .ok (.istore_n 3, 1) := by decide +kernel
theorem dX2_ofLine_2 : decode cX2_ofLine 2 = .ok (.iconst 0, 1) := by decide +kernel
theorem dX2_ofLine_3 : decode cX2_ofLine 3 = .ok (.istore 4, 2) := by decide +kernel
theorem dX2_ofLine_5 : decode cX2_ofLine 5 = .ok (.iload 4, 2) := by decide +kernel
theorem dX2_ofLine_7 : decode cX2_ofLine 7 = .ok (.aload_n 0, 1) := by decide +kernel
theorem dX2_ofLine_8 : decode cX2_ofLine 8 = .ok (.getfield 18, 3) := by decide +kernel
theorem dX2_ofLine_11 : decode cX2_ofLine 11 = .ok (.getfield 22, 3) := by decide +kernel
theorem dX2_ofLine_14 : decode cX2_ofLine 14 = .ok (.if_icmp .ge 29, 3) := by decide +kernel
theorem dX2_ofLine_17 : decode cX2_ofLine 17 = .ok (.aload_n 0, 1) := by decide +kernel
theorem dX2_ofLine_18 : decode cX2_ofLine 18 = .ok (.iload 4, 2) := by decide +kernel
theorem dX2_ofLine_20 : decode cX2_ofLine 20 = .ok (.iload_n 2, 1) := by decide +kernel
theorem dX2_ofLine_21 : decode cX2_ofLine 21 = .ok (.invokevirtual 33, 3) := by decide +kernel
theorem dX2_ofLine_24 : decode cX2_ofLine 24 = .ok (.ifCond .eq 13, 3) := by decide +kernel
theorem dX2_ofLine_27 : decode cX2_ofLine 27 = .ok (.iload_n 3, 1) := by decide +kernel
theorem dX2_ofLine_28 : decode cX2_ofLine 28 = .ok (.aload_n 0, 1) := by decide +kernel
theorem dX2_ofLine_29 : decode cX2_ofLine 29 = .ok (.aload_n 1, 1) := by decide +kernel
theorem dX2_ofLine_30 : decode cX2_ofLine 30 = .ok (.iload 4, 2) := by decide +kernel
theorem dX2_ofLine_32 : decode cX2_ofLine 32 = .ok (.invokevirtual 37, 3) := by decide +kernel
theorem dX2_ofLine_35 : decode cX2_ofLine 35 = .ok (.iadd, 1) := by decide +kernel
theorem dX2_ofLine_36 : decode cX2_ofLine 36 = .ok (.istore_n 3, 1) := by decide +kernel
theorem dX2_ofLine_37 : decode cX2_ofLine 37 = .ok (.iinc 4 1, 3) := by decide +kernel
theorem dX2_ofLine_40 : decode cX2_ofLine 40 = .ok (.goto (-35), 3) := by decide +kernel
theorem dX2_ofLine_43 : decode cX2_ofLine 43 = .ok (.iload_n 3, 1) := by decide +kernel
theorem dX2_ofLine_44 : decode cX2_ofLine 44 = .ok (.ireturn, 1) := by decide +kernel
theorem dX2_isOfLine_0 : decode cX2_isOfLine 0 = .ok (.iload_n 1, 1) := by decide +kernel
theorem dX2_isOfLine_1 : decode cX2_isOfLine 1 = .ok (.istore_n 3, 1) := by decide +kernel
theorem dX2_isOfLine_2 : decode cX2_isOfLine 2 = .ok (.iconst 0, 1) := by decide +kernel
theorem dX2_isOfLine_3 : decode cX2_isOfLine 3 = .ok (.istore 4, 2) := by decide +kernel
theorem dX2_isOfLine_5 : decode cX2_isOfLine 5 = .ok (.iload 4, 2) := by decide +kernel
theorem dX2_isOfLine_7 : decode cX2_isOfLine 7 = .ok (.bipush 6, 2) := by decide +kernel
theorem dX2_isOfLine_9 : decode cX2_isOfLine 9 = .ok (.if_icmp .ge 37, 3) := by decide +kernel
theorem dX2_isOfLine_12 : decode cX2_isOfLine 12 = .ok (.aload_n 0, 1) := by decide +kernel
theorem dX2_isOfLine_13 : decode cX2_isOfLine 13 = .ok (.getfield 18, 3) := by decide +kernel
theorem dX2_isOfLine_16 : decode cX2_isOfLine 16 = .ok (.iload_n 3, 1) := by decide +kernel
theorem dX2_isOfLine_17 : decode cX2_isOfLine 17 = .ok (.invokevirtual 41, 3) := by decide +kernel
theorem dX2_isOfLine_20 : decode cX2_isOfLine 20 = .ok (.ifCond .eq 26, 3) := by decide +kernel
theorem dX2_isOfLine_23 : decode cX2_isOfLine 23 = .ok (.iload_n 3, 1) := by decide +kernel
theorem dX2_isOfLine_24 : decode cX2_isOfLine 24 = .ok (.iload_n 2, 1) := by decide +kernel
theorem dX2_isOfLine_25 : decode cX2_isOfLine 25 = .ok (.if_icmp .ne 5, 3) := by decide +kernel
theorem dX2_isOfLine_28 : decode cX2_isOfLine 28 = .ok (.iconst 1, 1) := by decide +kernel
theorem dX2_isOfLine_29 : decode cX2_isOfLine 29 = .ok (.ireturn, 1) := by decide +kernel
theorem dX2_isOfLine_30 : decode cX2_isOfLine 30 = .ok (.aload_n 0, 1) := by decide +kernel
theorem dX2_isOfLine_31 : decode cX2_isOfLine 31 = .ok (.getfield 18, 3) := by decide +kernel
theorem dX2_isOfLine_34 : decode cX2_isOfLine 34 = .ok (.getfield 45, 3) := by decide +kernel
theorem dX2_isOfLine_37 : decode cX2_isOfLine 37 = .ok (.iload_n 3, 1) := by decide +kernel
theorem dX2_isOfLine_38 : decode cX2_isOfLine 38 = .ok (.iaload, 1) := by decide +kernel
theorem dX2_isOfLine_39 : decode cX2_isOfLine 39 = .ok (.istore_n 3, 1) := by decide +kernel
theorem dX2_isOfLine_40 : decode cX2_isOfLine 40 = .ok (.iinc 4 1, 3) := by decide +kernel
theorem dX2_isOfLine_43 : decode cX2_isOfLine 43 = .ok (.goto (-38), 3) := by decide +kernel
theorem dX2_isOfLine_46 : decode cX2_isOfLine 46 = .ok (.iconst 0, 1) := by decide +kernel
theorem dX2_isOfLine_47 : decode cX2_isOfLine 47 = .ok (.ireturn, 1) := by decide +kernel
theorem dX2_fewestPayments_0 : decode cX2_fewestPayments 0 = .ok (.iconst 1, 1) := by decide +kernel
theorem dX2_fewestPayments_1 : decode cX2_fewestPayments 1 = .ok (.aload_n 0, 1) := by decide +kernel
theorem dX2_fewestPayments_2 : decode cX2_fewestPayments 2 = .ok (.getfield 18, 3) := by decide +kernel
theorem dX2_fewestPayments_5 : decode cX2_fewestPayments 5 = .ok (.getfield 22, 3) := by decide +kernel
theorem dX2_fewestPayments_8 : decode cX2_fewestPayments 8 = .ok (.ishl, 1) := by decide +kernel
theorem dX2_fewestPayments_9 : decode cX2_fewestPayments 9 = .ok (.istore_n 2, 1) := by decide +kernel
theorem dX2_fewestPayments_10 : decode cX2_fewestPayments 10 = .ok (.aload_n 0, 1) := by decide +kernel
theorem dX2_fewestPayments_11 : decode cX2_fewestPayments 11 = .ok (.getfield 11, 3) := by decide +kernel
theorem dX2_fewestPayments_14 : decode cX2_fewestPayments 14 = .ok (.iconst 0, 1) := by decide +kernel
theorem dX2_fewestPayments_15 : decode cX2_fewestPayments 15 = .ok (.iconst 0, 1) := by decide +kernel
theorem dX2_fewestPayments_16 : decode cX2_fewestPayments 16 = .ok (.iastore, 1) := by decide +kernel
theorem dX2_fewestPayments_17 : decode cX2_fewestPayments 17 = .ok (.aload_n 0, 1) := by decide +kernel
theorem dX2_fewestPayments_18 : decode cX2_fewestPayments 18 = .ok (.getfield 15, 3) := by decide +kernel
theorem dX2_fewestPayments_21 : decode cX2_fewestPayments 21 = .ok (.iconst 0, 1) := by decide +kernel
theorem dX2_fewestPayments_22 : decode cX2_fewestPayments 22 = .ok (.iconst 0, 1) := by decide +kernel
theorem dX2_fewestPayments_23 : decode cX2_fewestPayments 23 = .ok (.iastore, 1) := by decide +kernel
theorem dX2_fewestPayments_24 : decode cX2_fewestPayments 24 = .ok (.iconst 1, 1) := by decide +kernel
theorem dX2_fewestPayments_25 : decode cX2_fewestPayments 25 = .ok (.istore_n 3, 1) := by decide +kernel
theorem dX2_fewestPayments_26 : decode cX2_fewestPayments 26 = .ok (.iload_n 3, 1) := by decide +kernel
theorem dX2_fewestPayments_27 : decode cX2_fewestPayments 27 = .ok (.iload_n 2, 1) := by decide +kernel
theorem dX2_fewestPayments_28 : decode cX2_fewestPayments 28 = .ok (.if_icmp .ge 118, 3) := by decide +kernel
theorem dX2_fewestPayments_31 : decode cX2_fewestPayments 31 = .ok (.aload_n 0, 1) := by decide +kernel
theorem dX2_fewestPayments_32 : decode cX2_fewestPayments 32 = .ok (.getfield 15, 3) := by decide +kernel
theorem dX2_fewestPayments_35 : decode cX2_fewestPayments 35 = .ok (.iload_n 3, 1) := by decide +kernel
theorem dX2_fewestPayments_36 : decode cX2_fewestPayments 36 = .ok (.iconst 0, 1) := by decide +kernel
theorem dX2_fewestPayments_37 : decode cX2_fewestPayments 37 = .ok (.iastore, 1) := by decide +kernel
theorem dX2_fewestPayments_38 : decode cX2_fewestPayments 38 = .ok (.iconst 0, 1) := by decide +kernel
theorem dX2_fewestPayments_39 : decode cX2_fewestPayments 39 = .ok (.istore 4, 2) := by decide +kernel
theorem dX2_fewestPayments_41 : decode cX2_fewestPayments 41 = .ok (.iload 4, 2) := by decide +kernel
theorem dX2_fewestPayments_43 : decode cX2_fewestPayments 43 = .ok (.aload_n 0, 1) := by decide +kernel
theorem dX2_fewestPayments_44 : decode cX2_fewestPayments 44 = .ok (.getfield 18, 3) := by decide +kernel
theorem dX2_fewestPayments_47 : decode cX2_fewestPayments 47 = .ok (.getfield 22, 3) := by decide +kernel
theorem dX2_fewestPayments_50 : decode cX2_fewestPayments 50 = .ok (.if_icmp .ge 71, 3) := by decide +kernel
theorem dX2_fewestPayments_53 : decode cX2_fewestPayments 53 = .ok (.iload_n 3, 1) := by decide +kernel
theorem dX2_fewestPayments_54 : decode cX2_fewestPayments 54 = .ok (.iconst 1, 1) := by decide +kernel
theorem dX2_fewestPayments_55 : decode cX2_fewestPayments 55 = .ok (.iload 4, 2) := by decide +kernel
theorem dX2_fewestPayments_57 : decode cX2_fewestPayments 57 = .ok (.ishl, 1) := by decide +kernel
theorem dX2_fewestPayments_58 : decode cX2_fewestPayments 58 = .ok (.iconst (-1), 1) := by decide +kernel
theorem dX2_fewestPayments_59 : decode cX2_fewestPayments 59 = .ok (.ixor, 1) := by decide +kernel
theorem dX2_fewestPayments_60 : decode cX2_fewestPayments 60 = .ok (.iand, 1) := by decide +kernel
theorem dX2_fewestPayments_61 : decode cX2_fewestPayments 61 = .ok (.istore 5, 2) := by decide +kernel
theorem dX2_fewestPayments_63 : decode cX2_fewestPayments 63 = .ok (.iload 5, 2) := by decide +kernel
theorem dX2_fewestPayments_65 : decode cX2_fewestPayments 65 = .ok (.iload_n 3, 1) := by decide +kernel
theorem dX2_fewestPayments_66 : decode cX2_fewestPayments 66 = .ok (.if_icmp .ne 6, 3) := by decide +kernel
theorem dX2_fewestPayments_69 : decode cX2_fewestPayments 69 = .ok (.goto 46, 3) := by decide +kernel
theorem dX2_fewestPayments_72 : decode cX2_fewestPayments 72 = .ok (.aload_n 0, 1) := by decide +kernel
theorem dX2_fewestPayments_73 : decode cX2_fewestPayments 73 = .ok (.getfield 11, 3) := by decide +kernel
theorem dX2_fewestPayments_76 : decode cX2_fewestPayments 76 = .ok (.iload_n 3, 1) := by decide +kernel
theorem dX2_fewestPayments_77 : decode cX2_fewestPayments 77 = .ok (.aload_n 0, 1) := by decide +kernel
theorem dX2_fewestPayments_78 : decode cX2_fewestPayments 78 = .ok (.getfield 11, 3) := by decide +kernel
theorem dX2_fewestPayments_81 : decode cX2_fewestPayments 81 = .ok (.iload 5, 2) := by decide +kernel
theorem dX2_fewestPayments_83 : decode cX2_fewestPayments 83 = .ok (.iaload, 1) := by decide +kernel
theorem dX2_fewestPayments_84 : decode cX2_fewestPayments 84 = .ok (.aload_n 0, 1) := by decide +kernel
theorem dX2_fewestPayments_85 : decode cX2_fewestPayments 85 = .ok (.aload_n 1, 1) := by decide +kernel
theorem dX2_fewestPayments_86 : decode cX2_fewestPayments 86 = .ok (.iload 4, 2) := by decide +kernel
theorem dX2_fewestPayments_88 : decode cX2_fewestPayments 88 = .ok (.invokevirtual 37, 3) := by decide +kernel
theorem dX2_fewestPayments_91 : decode cX2_fewestPayments 91 = .ok (.iadd, 1) := by decide +kernel
theorem dX2_fewestPayments_92 : decode cX2_fewestPayments 92 = .ok (.iastore, 1) := by decide +kernel
theorem dX2_fewestPayments_93 : decode cX2_fewestPayments 93 = .ok (.aload_n 0, 1) := by decide +kernel
theorem dX2_fewestPayments_94 : decode cX2_fewestPayments 94 = .ok (.getfield 15, 3) := by decide +kernel
theorem dX2_fewestPayments_97 : decode cX2_fewestPayments 97 = .ok (.iload_n 3, 1) := by decide +kernel
theorem dX2_fewestPayments_98 : decode cX2_fewestPayments 98 = .ok (.aload_n 0, 1) := by decide +kernel
theorem dX2_fewestPayments_99 : decode cX2_fewestPayments 99 = .ok (.getfield 15, 3) := by decide +kernel
theorem dX2_fewestPayments_102 : decode cX2_fewestPayments 102 = .ok (.iload_n 3, 1) := by decide +kernel
theorem dX2_fewestPayments_103 : decode cX2_fewestPayments 103 = .ok (.iaload, 1) := by decide +kernel
theorem dX2_fewestPayments_104 : decode cX2_fewestPayments 104 = .ok (.aload_n 0, 1) := by decide +kernel
theorem dX2_fewestPayments_105 : decode cX2_fewestPayments 105 = .ok (.getfield 15, 3) := by decide +kernel
theorem dX2_fewestPayments_108 : decode cX2_fewestPayments 108 = .ok (.iload 5, 2) := by decide +kernel
theorem dX2_fewestPayments_110 : decode cX2_fewestPayments 110 = .ok (.iaload, 1) := by decide +kernel
theorem dX2_fewestPayments_111 : decode cX2_fewestPayments 111 = .ok (.invokestatic 48, 3) := by decide +kernel
theorem dX2_fewestPayments_114 : decode cX2_fewestPayments 114 = .ok (.iastore, 1) := by decide +kernel
theorem dX2_fewestPayments_115 : decode cX2_fewestPayments 115 = .ok (.iinc 4 1, 3) := by decide +kernel
theorem dX2_fewestPayments_118 : decode cX2_fewestPayments 118 = .ok (.goto (-77), 3) := by decide +kernel
theorem dX2_fewestPayments_121 : decode cX2_fewestPayments 121 = .ok (.aload_n 0, 1) := by decide +kernel
theorem dX2_fewestPayments_122 : decode cX2_fewestPayments 122 = .ok (.getfield 11, 3) := by decide +kernel
theorem dX2_fewestPayments_125 : decode cX2_fewestPayments 125 = .ok (.iload_n 3, 1) := by decide +kernel
theorem dX2_fewestPayments_126 : decode cX2_fewestPayments 126 = .ok (.iaload, 1) := by decide +kernel
theorem dX2_fewestPayments_127 : decode cX2_fewestPayments 127 = .ok (.ifCond .ne 13, 3) := by decide +kernel
theorem dX2_fewestPayments_130 : decode cX2_fewestPayments 130 = .ok (.aload_n 0, 1) := by decide +kernel
theorem dX2_fewestPayments_131 : decode cX2_fewestPayments 131 = .ok (.getfield 15, 3) := by decide +kernel
theorem dX2_fewestPayments_134 : decode cX2_fewestPayments 134 = .ok (.iload_n 3, 1) := by decide +kernel
theorem dX2_fewestPayments_135 : decode cX2_fewestPayments 135 = .ok (.dup2, 1) := by decide +kernel
theorem dX2_fewestPayments_136 : decode cX2_fewestPayments 136 = .ok (.iaload, 1) := by decide +kernel
theorem dX2_fewestPayments_137 : decode cX2_fewestPayments 137 = .ok (.iconst 1, 1) := by decide +kernel
theorem dX2_fewestPayments_138 : decode cX2_fewestPayments 138 = .ok (.iadd, 1) := by decide +kernel
theorem dX2_fewestPayments_139 : decode cX2_fewestPayments 139 = .ok (.iastore, 1) := by decide +kernel
theorem dX2_fewestPayments_140 : decode cX2_fewestPayments 140 = .ok (.iinc 3 1, 3) := by decide +kernel
theorem dX2_fewestPayments_143 : decode cX2_fewestPayments 143 = .ok (.goto (-117), 3) := by decide +kernel
theorem dX2_fewestPayments_146 : decode cX2_fewestPayments 146 = .ok (.aload_n 0, 1) := by decide +kernel
theorem dX2_fewestPayments_147 : decode cX2_fewestPayments 147 = .ok (.getfield 18, 3) := by decide +kernel
theorem dX2_fewestPayments_150 : decode cX2_fewestPayments 150 = .ok (.getfield 22, 3) := by decide +kernel
theorem dX2_fewestPayments_153 : decode cX2_fewestPayments 153 = .ok (.aload_n 0, 1) := by decide +kernel
theorem dX2_fewestPayments_154 : decode cX2_fewestPayments 154 = .ok (.getfield 15, 3) := by decide +kernel
theorem dX2_fewestPayments_157 : decode cX2_fewestPayments 157 = .ok (.iload_n 2, 1) := by decide +kernel
theorem dX2_fewestPayments_158 : decode cX2_fewestPayments 158 = .ok (.iconst 1, 1) := by decide +kernel
theorem dX2_fewestPayments_159 : decode cX2_fewestPayments 159 = .ok (.isub, 1) := by decide +kernel
theorem dX2_fewestPayments_160 : decode cX2_fewestPayments 160 = .ok (.iaload, 1) := by decide +kernel
theorem dX2_fewestPayments_161 : decode cX2_fewestPayments 161 = .ok (.isub, 1) := by decide +kernel
theorem dX2_fewestPayments_162 : decode cX2_fewestPayments 162 = .ok (.ireturn, 1) := by decide +kernel
theorem dX3_init_0 : decode cX3_init 0 = .ok (.aload_n 0, 1) := by decide +kernel
theorem dX3_init_1 : decode cX3_init 1 = .ok (.invokespecial 3, 3) := by decide +kernel
theorem dX3_init_4 : decode cX3_init 4 = .ok (.aload_n 0, 1) := by decide +kernel
theorem dX3_init_5 : decode cX3_init 5 = .ok (.bipush 12, 2) := by decide +kernel
theorem dX3_init_7 : decode cX3_init 7 = .ok (.newarray .int, 2) := by decide +kernel
theorem dX3_init_9 : decode cX3_init 9 = .ok (.putfield 9, 3) := by decide +kernel
theorem dX3_init_12 : decode cX3_init 12 = .ok (.aload_n 0, 1) := by decide +kernel
theorem dX3_init_13 : decode cX3_init 13 = .ok (.bipush 6, 2) := by decide +kernel
theorem dX3_init_15 : decode cX3_init 15 = .ok (.newarray .int, 2) := by decide +kernel
theorem dX3_init_17 : decode cX3_init 17 = .ok (.putfield 15, 3) := by decide +kernel
theorem dX3_init_20 : decode cX3_init 20 = .ok (.aload_n 0, 1) := by decide +kernel
theorem dX3_init_21 : decode cX3_init 21 = .ok (.bipush 6, 2) := by decide +kernel
theorem dX3_init_23 : decode cX3_init 23 = .ok (.newarray .int, 2) := by decide +kernel
theorem dX3_init_25 : decode cX3_init 25 = .ok (.putfield 18, 3) := by decide +kernel
theorem dX3_init_28 : decode cX3_init 28 = .ok (.aload_n 0, 1) := by decide +kernel
theorem dX3_init_29 : decode cX3_init 29 = .ok (.bipush 6, 2) := by decide +kernel
theorem dX3_init_31 : decode cX3_init 31 = .ok (.newarray .int, 2) := by decide +kernel
theorem dX3_init_33 : decode cX3_init 33 = .ok (.putfield 21, 3) := by decide +kernel
theorem dX3_init_36 : decode cX3_init 36 = .ok (.aload_n 0, 1) := by decide +kernel
theorem dX3_init_37 : decode cX3_init 37 = .ok (.bipush 6, 2) := by decide +kernel
theorem dX3_init_39 : decode cX3_init 39 = .ok (.newarray .int, 2) := by decide +kernel
theorem dX3_init_41 : decode cX3_init 41 = .ok (.putfield 24, 3) := by decide +kernel
theorem dX3_init_44 : decode cX3_init 44 = .ok (.aload_n 0, 1) := by decide +kernel
theorem dX3_init_45 : decode cX3_init 45 = .ok (.bipush 6, 2) := by decide +kernel
theorem dX3_init_47 : decode cX3_init 47 = .ok (.newarray .int, 2) := by decide +kernel
theorem dX3_init_49 : decode cX3_init 49 = .ok (.putfield 27, 3) := by decide +kernel
theorem dX3_init_52 : decode cX3_init 52 = .ok (.aload_n 0, 1) := by decide +kernel
theorem dX3_init_53 : decode cX3_init 53 = .ok (.iconst 3, 1) := by decide +kernel
theorem dX3_init_54 : decode cX3_init 54 = .ok (.newarray .int, 2) := by decide +kernel
theorem dX3_init_56 : decode cX3_init 56 = .ok (.putfield 30, 3) := by decide +kernel
theorem dX3_init_59 : decode cX3_init 59 = .ok (.aload_n 0, 1) := by decide +kernel
theorem dX3_init_60 : decode cX3_init 60 = .ok (.invokevirtual 33, 3) := by decide +kernel
theorem dX3_init_63 : decode cX3_init 63 = .ok (.return_, 1) := by decide +kernel
theorem dX3_clear_0 : decode cX3_clear 0 = .ok (.aload_n 0, 1) := by decide +kernel
theorem dX3_clear_1 : decode cX3_clear 1 = .ok (.iconst 0, 1) := by decide +kernel
theorem dX3_clear_2 : decode cX3_clear 2 = .ok (.putfield 36, 3) := by decide +kernel
theorem dX3_clear_5 : decode cX3_clear 5 = .ok (.aload_n 0, 1) := by decide +kernel
theorem dX3_clear_6 : decode cX3_clear 6 = .ok (.iconst 0, 1) := by decide +kernel
theorem dX3_clear_7 : decode cX3_clear 7 = .ok (.putfield 40, 3) := by decide +kernel
theorem dX3_clear_10 : decode cX3_clear 10 = .ok (.aload_n 0, 1) := by decide +kernel
theorem dX3_clear_11 : decode cX3_clear 11 = .ok (.iconst 3, 1) := by decide +kernel
theorem dX3_clear_12 : decode cX3_clear 12 = .ok (.iconst 5, 1) := by decide +kernel
theorem dX3_clear_13 : decode cX3_clear 13 = .ok (.bipush 7, 2) := by decide +kernel
theorem dX3_clear_15 : decode cX3_clear 15 = .ok (.invokevirtual 43, 3) := by decide +kernel
theorem dX3_clear_18 : decode cX3_clear 18 = .ok (.aload_n 0, 1) := by decide +kernel
theorem dX3_clear_19 : decode cX3_clear 19 = .ok (.bipush 9, 2) := by decide +kernel
theorem dX3_clear_21 : decode cX3_clear 21 = .ok (.putfield 47, 3) := by decide +kernel
theorem dX3_clear_24 : decode cX3_clear 24 = .ok (.return_, 1) := by decide +kernel
theorem dX3_copyFrom_0 : decode cX3_copyFrom 0 = .ok (.aload_n 1, 1) := by decide +kernel
theorem dX3_copyFrom_1 : decode cX3_copyFrom 1 = .ok (.getfield 9, 3) := by decide +kernel
theorem dX3_copyFrom_4 : decode cX3_copyFrom 4 = .ok (.iconst 0, 1) := by decide +kernel
theorem dX3_copyFrom_5 : decode cX3_copyFrom 5 = .ok (.aload_n 0, 1) := by decide +kernel
theorem dX3_copyFrom_6 : decode cX3_copyFrom 6 = .ok (.getfield 9, 3) := by decide +kernel
theorem dX3_copyFrom_9 : decode cX3_copyFrom 9 = .ok (.iconst 0, 1) := by decide +kernel
theorem dX3_copyFrom_10 : decode cX3_copyFrom 10 = .ok (.bipush 12, 2) := by decide +kernel
theorem dX3_copyFrom_12 : decode cX3_copyFrom 12 = .ok (.invokestatic 50, 3) := by decide +kernel
theorem dX3_copyFrom_15 : decode cX3_copyFrom 15 = .ok (.aload_n 1, 1) := by decide +kernel
theorem dX3_copyFrom_16 : decode cX3_copyFrom 16 = .ok (.getfield 15, 3) := by decide +kernel
theorem dX3_copyFrom_19 : decode cX3_copyFrom 19 = .ok (.iconst 0, 1) := by decide +kernel
theorem dX3_copyFrom_20 : decode cX3_copyFrom 20 = .ok (.aload_n 0, 1) := by decide +kernel
theorem dX3_copyFrom_21 : decode cX3_copyFrom 21 = .ok (.getfield 15, 3) := by decide +kernel
theorem dX3_copyFrom_24 : decode cX3_copyFrom 24 = .ok (.iconst 0, 1) := by decide +kernel
theorem dX3_copyFrom_25 : decode cX3_copyFrom 25 = .ok (.bipush 6, 2) := by decide +kernel
theorem dX3_copyFrom_27 : decode cX3_copyFrom 27 = .ok (.invokestatic 50, 3) := by decide +kernel
theorem dX3_copyFrom_30 : decode cX3_copyFrom 30 = .ok (.aload_n 1, 1) := by decide +kernel
theorem dX3_copyFrom_31 : decode cX3_copyFrom 31 = .ok (.getfield 18, 3) := by decide +kernel
theorem dX3_copyFrom_34 : decode cX3_copyFrom 34 = .ok (.iconst 0, 1) := by decide +kernel
theorem dX3_copyFrom_35 : decode cX3_copyFrom 35 = .ok (.aload_n 0, 1) := by decide +kernel
theorem dX3_copyFrom_36 : decode cX3_copyFrom 36 = .ok (.getfield 18, 3) := by decide +kernel
theorem dX3_copyFrom_39 : decode cX3_copyFrom 39 = .ok (.iconst 0, 1) := by decide +kernel
theorem dX3_copyFrom_40 : decode cX3_copyFrom 40 = .ok (.bipush 6, 2) := by decide +kernel
theorem dX3_copyFrom_42 : decode cX3_copyFrom 42 = .ok (.invokestatic 50, 3) := by decide +kernel
theorem dX3_copyFrom_45 : decode cX3_copyFrom 45 = .ok (.aload_n 1, 1) := by decide +kernel
theorem dX3_copyFrom_46 : decode cX3_copyFrom 46 = .ok (.getfield 21, 3) := by decide +kernel
theorem dX3_copyFrom_49 : decode cX3_copyFrom 49 = .ok (.iconst 0, 1) := by decide +kernel
theorem dX3_copyFrom_50 : decode cX3_copyFrom 50 = .ok (.aload_n 0, 1) := by decide +kernel
theorem dX3_copyFrom_51 : decode cX3_copyFrom 51 = .ok (.getfield 21, 3) := by decide +kernel
theorem dX3_copyFrom_54 : decode cX3_copyFrom 54 = .ok (.iconst 0, 1) := by decide +kernel
theorem dX3_copyFrom_55 : decode cX3_copyFrom 55 = .ok (.bipush 6, 2) := by decide +kernel
theorem dX3_copyFrom_57 : decode cX3_copyFrom 57 = .ok (.invokestatic 50, 3) := by decide +kernel
theorem dX3_copyFrom_60 : decode cX3_copyFrom 60 = .ok (.aload_n 1, 1) := by decide +kernel
theorem dX3_copyFrom_61 : decode cX3_copyFrom 61 = .ok (.getfield 24, 3) := by decide +kernel
theorem dX3_copyFrom_64 : decode cX3_copyFrom 64 = .ok (.iconst 0, 1) := by decide +kernel
theorem dX3_copyFrom_65 : decode cX3_copyFrom 65 = .ok (.aload_n 0, 1) := by decide +kernel
theorem dX3_copyFrom_66 : decode cX3_copyFrom 66 = .ok (.getfield 24, 3) := by decide +kernel
theorem dX3_copyFrom_69 : decode cX3_copyFrom 69 = .ok (.iconst 0, 1) := by decide +kernel
theorem dX3_copyFrom_70 : decode cX3_copyFrom 70 = .ok (.bipush 6, 2) := by decide +kernel
theorem dX3_copyFrom_72 : decode cX3_copyFrom 72 = .ok (.invokestatic 50, 3) := by decide +kernel
theorem dX3_copyFrom_75 : decode cX3_copyFrom 75 = .ok (.aload_n 1, 1) := by decide +kernel
theorem dX3_copyFrom_76 : decode cX3_copyFrom 76 = .ok (.getfield 27, 3) := by decide +kernel
theorem dX3_copyFrom_79 : decode cX3_copyFrom 79 = .ok (.iconst 0, 1) := by decide +kernel
theorem dX3_copyFrom_80 : decode cX3_copyFrom 80 = .ok (.aload_n 0, 1) := by decide +kernel
theorem dX3_copyFrom_81 : decode cX3_copyFrom 81 = .ok (.getfield 27, 3) := by decide +kernel
theorem dX3_copyFrom_84 : decode cX3_copyFrom 84 = .ok (.iconst 0, 1) := by decide +kernel
theorem dX3_copyFrom_85 : decode cX3_copyFrom 85 = .ok (.bipush 6, 2) := by decide +kernel
theorem dX3_copyFrom_87 : decode cX3_copyFrom 87 = .ok (.invokestatic 50, 3) := by decide +kernel
theorem dX3_copyFrom_90 : decode cX3_copyFrom 90 = .ok (.aload_n 1, 1) := by decide +kernel
theorem dX3_copyFrom_91 : decode cX3_copyFrom 91 = .ok (.getfield 30, 3) := by decide +kernel
theorem dX3_copyFrom_94 : decode cX3_copyFrom 94 = .ok (.iconst 0, 1) := by decide +kernel
theorem dX3_copyFrom_95 : decode cX3_copyFrom 95 = .ok (.aload_n 0, 1) := by decide +kernel
theorem dX3_copyFrom_96 : decode cX3_copyFrom 96 = .ok (.getfield 30, 3) := by decide +kernel
theorem dX3_copyFrom_99 : decode cX3_copyFrom 99 = .ok (.iconst 0, 1) := by decide +kernel
theorem dX3_copyFrom_100 : decode cX3_copyFrom 100 = .ok (.iconst 3, 1) := by decide +kernel
theorem dX3_copyFrom_101 : decode cX3_copyFrom 101 = .ok (.invokestatic 50, 3) := by decide +kernel
theorem dX3_copyFrom_104 : decode cX3_copyFrom 104 = .ok (.aload_n 0, 1) := by decide +kernel
theorem dX3_copyFrom_105 : decode cX3_copyFrom 105 = .ok (.aload_n 1, 1) := by decide +kernel
theorem dX3_copyFrom_106 : decode cX3_copyFrom 106 = .ok (.getfield 36, 3) := by decide +kernel
theorem dX3_copyFrom_109 : decode cX3_copyFrom 109 = .ok (.putfield 36, 3) := by decide +kernel
theorem dX3_copyFrom_112 : decode cX3_copyFrom 112 = .ok (.aload_n 0, 1) := by decide +kernel
theorem dX3_copyFrom_113 : decode cX3_copyFrom 113 = .ok (.aload_n 1, 1) := by decide +kernel
theorem dX3_copyFrom_114 : decode cX3_copyFrom 114 = .ok (.getfield 40, 3) := by decide +kernel
theorem dX3_copyFrom_117 : decode cX3_copyFrom 117 = .ok (.putfield 40, 3) := by decide +kernel
theorem dX3_copyFrom_120 : decode cX3_copyFrom 120 = .ok (.aload_n 0, 1) := by decide +kernel
theorem dX3_copyFrom_121 : decode cX3_copyFrom 121 = .ok (.aload_n 1, 1) := by decide +kernel
theorem dX3_copyFrom_122 : decode cX3_copyFrom 122 = .ok (.getfield 47, 3) := by decide +kernel
theorem dX3_copyFrom_125 : decode cX3_copyFrom 125 = .ok (.putfield 47, 3) := by decide +kernel
theorem dX3_copyFrom_128 : decode cX3_copyFrom 128 = .ok (.return_, 1) := by decide +kernel
theorem dX3_setGoodness_0 : decode cX3_setGoodness 0 = .ok (.aload_n 0, 1) := by decide +kernel
theorem dX3_setGoodness_1 : decode cX3_setGoodness 1 = .ok (.getfield 30, 3) := by decide +kernel
theorem dX3_setGoodness_4 : decode cX3_setGoodness 4 = .ok (.iconst 0, 1) := by decide +kernel
theorem dX3_setGoodness_5 : decode cX3_setGoodness 5 = .ok (.iload_n 1, 1) := by decide +kernel
theorem dX3_setGoodness_6 : decode cX3_setGoodness 6 = .ok (.iastore, 1) := by decide +kernel
theorem dX3_setGoodness_7 : decode cX3_setGoodness 7 = .ok (.aload_n 0, 1) := by decide +kernel
theorem dX3_setGoodness_8 : decode cX3_setGoodness 8 = .ok (.getfield 30, 3) := by decide +kernel
theorem dX3_setGoodness_11 : decode cX3_setGoodness 11 = .ok (.iconst 1, 1) := by decide +kernel
theorem dX3_setGoodness_12 : decode cX3_setGoodness 12 = .ok (.iload_n 2, 1) := by decide +kernel
theorem dX3_setGoodness_13 : decode cX3_setGoodness 13 = .ok (.iastore, 1) := by decide +kernel
theorem dX3_setGoodness_14 : decode cX3_setGoodness 14 = .ok (.aload_n 0, 1) := by decide +kernel
theorem dX3_setGoodness_15 : decode cX3_setGoodness 15 = .ok (.getfield 30, 3) := by decide +kernel
theorem dX3_setGoodness_18 : decode cX3_setGoodness 18 = .ok (.iconst 2, 1) := by decide +kernel
theorem dX3_setGoodness_19 : decode cX3_setGoodness 19 = .ok (.iload_n 3, 1) := by decide +kernel
theorem dX3_setGoodness_20 : decode cX3_setGoodness 20 = .ok (.iastore, 1) := by decide +kernel
theorem dX3_setGoodness_21 : decode cX3_setGoodness 21 = .ok (.return_, 1) := by decide +kernel
theorem dX3_addWeight_0 : decode cX3_addWeight 0 = .ok (.aload_n 0, 1) := by decide +kernel
theorem dX3_addWeight_1 : decode cX3_addWeight 1 = .ok (.getfield 36, 3) := by decide +kernel
theorem dX3_addWeight_4 : decode cX3_addWeight 4 = .ok (.bipush 12, 2) := by decide +kernel
theorem dX3_addWeight_6 : decode cX3_addWeight 6 = .ok (.if_icmp .lt 4, 3) := by decide +kernel
theorem dX3_addWeight_9 : decode cX3_addWeight 9 = .ok (.return_, 1) := by decide +kernel
theorem dX3_addWeight_10 : decode cX3_addWeight 10 = .ok (.aload_n 0, 1) := by decide +kernel
theorem dX3_addWeight_11 : decode cX3_addWeight 11 = .ok (.getfield 9, 3) := by decide +kernel
theorem dX3_addWeight_14 : decode cX3_addWeight 14 = .ok (.aload_n 0, 1) := by decide +kernel
theorem dX3_addWeight_15 : decode cX3_addWeight 15 = .ok (.getfield 36, 3) := by decide +kernel
theorem dX3_addWeight_18 : decode cX3_addWeight 18 = .ok (.iload_n 1, 1) := by decide +kernel
theorem dX3_addWeight_19 : decode cX3_addWeight 19 = .ok (.iastore, 1) := by decide +kernel
theorem dX3_addWeight_20 : decode cX3_addWeight 20 = .ok (.aload_n 0, 1) := by decide +kernel
theorem dX3_addWeight_21 : decode cX3_addWeight 21 = .ok (.dup, 1) := by decide +kernel
theorem dX3_addWeight_22 : decode cX3_addWeight 22 = .ok (.getfield 36, 3) := by decide +kernel
theorem dX3_addWeight_25 : decode cX3_addWeight 25 = .ok (.iconst 1, 1) := by decide +kernel
theorem dX3_addWeight_26 : decode cX3_addWeight 26 = .ok (.iadd, 1) := by decide +kernel
theorem dX3_addWeight_27 : decode cX3_addWeight 27 = .ok (.putfield 36, 3) := by decide +kernel
theorem dX3_addWeight_30 : decode cX3_addWeight 30 = .ok (.return_, 1) := by decide +kernel
theorem dX3_addPerson_0 : decode cX3_addPerson 0 = .ok (.aload_n 0, 1) := by decide +kernel
theorem dX3_addPerson_1 : decode cX3_addPerson 1 = .ok (.getfield 40, 3) := by decide +kernel
theorem dX3_addPerson_4 : decode cX3_addPerson 4 = .ok (.bipush 6, 2) := by decide +kernel
theorem dX3_addPerson_6 : decode cX3_addPerson 6 = .ok (.if_icmp .lt 4, 3) := by decide +kernel
theorem dX3_addPerson_9 : decode cX3_addPerson 9 = .ok (.return_, 1) := by decide +kernel
theorem dX3_addPerson_10 : decode cX3_addPerson 10 = .ok (.aload_n 0, 1) := by decide +kernel
theorem dX3_addPerson_11 : decode cX3_addPerson 11 = .ok (.getfield 15, 3) := by decide +kernel
theorem dX3_addPerson_14 : decode cX3_addPerson 14 = .ok (.aload_n 0, 1) := by decide +kernel
theorem dX3_addPerson_15 : decode cX3_addPerson 15 = .ok (.getfield 40, 3) := by decide +kernel
theorem dX3_addPerson_18 : decode cX3_addPerson 18 = .ok (.iload_n 1, 1) := by decide +kernel
theorem dX3_addPerson_19 : decode cX3_addPerson 19 = .ok (.iastore, 1) := by decide +kernel
theorem dX3_addPerson_20 : decode cX3_addPerson 20 = .ok (.aload_n 0, 1) := by decide +kernel
theorem dX3_addPerson_21 : decode cX3_addPerson 21 = .ok (.getfield 18, 3) := by decide +kernel
theorem dX3_addPerson_24 : decode cX3_addPerson 24 = .ok (.aload_n 0, 1) := by decide +kernel
theorem dX3_addPerson_25 : decode cX3_addPerson 25 = .ok (.getfield 40, 3) := by decide +kernel
theorem dX3_addPerson_28 : decode cX3_addPerson 28 = .ok (.iload_n 2, 1) := by decide +kernel
theorem dX3_addPerson_29 : decode cX3_addPerson 29 = .ok (.iastore, 1) := by decide +kernel
theorem dX3_addPerson_30 : decode cX3_addPerson 30 = .ok (.aload_n 0, 1) := by decide +kernel
theorem dX3_addPerson_31 : decode cX3_addPerson 31 = .ok (.getfield 21, 3) := by decide +kernel
theorem dX3_addPerson_34 : decode cX3_addPerson 34 = .ok (.aload_n 0, 1) := by decide +kernel
theorem dX3_addPerson_35 : decode cX3_addPerson 35 = .ok (.getfield 40, 3) := by decide +kernel
theorem dX3_addPerson_38 : decode cX3_addPerson 38 = .ok (.iload_n 3, 1) := by decide +kernel
theorem dX3_addPerson_39 : decode cX3_addPerson 39 = .ok (.iastore, 1) := by decide +kernel
theorem dX3_addPerson_40 : decode cX3_addPerson 40 = .ok (.aload_n 0, 1) := by decide +kernel
theorem dX3_addPerson_41 : decode cX3_addPerson 41 = .ok (.getfield 24, 3) := by decide +kernel
theorem dX3_addPerson_44 : decode cX3_addPerson 44 = .ok (.aload_n 0, 1) := by decide +kernel
theorem dX3_addPerson_45 : decode cX3_addPerson 45 = .ok (.getfield 40, 3) := by decide +kernel
theorem dX3_addPerson_48 : decode cX3_addPerson 48 = .ok (.iload 4, 2) := by decide +kernel
theorem dX3_addPerson_50 : decode cX3_addPerson 50 = .ok (.iastore, 1) := by decide +kernel
theorem dX3_addPerson_51 : decode cX3_addPerson 51 = .ok (.aload_n 0, 1) := by decide +kernel
theorem dX3_addPerson_52 : decode cX3_addPerson 52 = .ok (.getfield 27, 3) := by decide +kernel
theorem dX3_addPerson_55 : decode cX3_addPerson 55 = .ok (.aload_n 0, 1) := by decide +kernel
theorem dX3_addPerson_56 : decode cX3_addPerson 56 = .ok (.getfield 40, 3) := by decide +kernel
theorem dX3_addPerson_59 : decode cX3_addPerson 59 = .ok (.iload 5, 2) := by decide +kernel
theorem dX3_addPerson_61 : decode cX3_addPerson 61 = .ok (.iastore, 1) := by decide +kernel
theorem dX3_addPerson_62 : decode cX3_addPerson 62 = .ok (.aload_n 0, 1) := by decide +kernel
theorem dX3_addPerson_63 : decode cX3_addPerson 63 = .ok (.dup, 1) := by decide +kernel
theorem dX3_addPerson_64 : decode cX3_addPerson 64 = .ok (.getfield 40, 3) := by decide +kernel
theorem dX3_addPerson_67 : decode cX3_addPerson 67 = .ok (.iconst 1, 1) := by decide +kernel
theorem dX3_addPerson_68 : decode cX3_addPerson 68 = .ok (.iadd, 1) := by decide +kernel
theorem dX3_addPerson_69 : decode cX3_addPerson 69 = .ok (.putfield 40, 3) := by decide +kernel
theorem dX3_addPerson_72 : decode cX3_addPerson 72 = .ok (.return_, 1) := by decide +kernel
theorem dX3_isPerson_0 : decode cX3_isPerson 0 = .ok (.iload_n 1, 1) := by decide +kernel
theorem dX3_isPerson_1 : decode cX3_isPerson 1 = .ok (.ifCond .lt 15, 3) := by decide +kernel
theorem dX3_isPerson_4 : decode cX3_isPerson 4 = .ok (.iload_n 1, 1) := by decide +kernel
theorem dX3_isPerson_5 : decode cX3_isPerson 5 = .ok (.aload_n 0, 1) := by decide +kernel
theorem dX3_isPerson_6 : decode cX3_isPerson 6 = .ok (.getfield 40, 3) := by decide +kernel
theorem dX3_isPerson_9 : decode cX3_isPerson 9 = .ok (.if_icmp .ge 7, 3) := by decide +kernel
theorem dX3_isPerson_12 : decode cX3_isPerson 12 = .ok (.iconst 1, 1) := by decide +kernel
theorem dX3_isPerson_13 : decode cX3_isPerson 13 = .ok (.goto 4, 3) := by decide +kernel
theorem dX3_isPerson_16 : decode cX3_isPerson 16 = .ok (.iconst 0, 1) := by decide +kernel
theorem dX3_isPerson_17 : decode cX3_isPerson 17 = .ok (.ireturn, 1) := by decide +kernel
theorem dX3_isWhole_0 : decode cX3_isWhole 0 = .ok (.aload_n 0, 1) := by decide +kernel
theorem dX3_isWhole_1 : decode cX3_isWhole 1 = .ok (.getfield 36, 3) := by decide +kernel
theorem dX3_isWhole_4 : decode cX3_isWhole 4 = .ok (.ifCond .le 14, 3) := by decide +kernel
theorem dX3_isWhole_7 : decode cX3_isWhole 7 = .ok (.aload_n 0, 1) := by decide +kernel
theorem dX3_isWhole_8 : decode cX3_isWhole 8 = .ok (.getfield 40, 3) := by decide +kernel
theorem dX3_isWhole_11 : decode cX3_isWhole 11 = .ok (.ifCond .le 7, 3) := by decide +kernel
theorem dX3_isWhole_14 : decode cX3_isWhole 14 = .ok (.iconst 1, 1) := by decide +kernel
theorem dX3_isWhole_15 : decode cX3_isWhole 15 = .ok (.goto 4, 3) := by decide +kernel
theorem dX3_isWhole_18 : decode cX3_isWhole 18 = .ok (.iconst 0, 1) := by decide +kernel
theorem dX3_isWhole_19 : decode cX3_isWhole 19 = .ok (.ireturn, 1) := by decide +kernel
theorem dX3_weightAt_0 : decode cX3_weightAt 0 = .ok (.aload_n 0, 1) := by decide +kernel
theorem dX3_weightAt_1 : decode cX3_weightAt 1 = .ok (.getfield 36, 3) := by decide +kernel
theorem dX3_weightAt_4 : decode cX3_weightAt 4 = .ok (.iconst 1, 1) := by decide +kernel
theorem dX3_weightAt_5 : decode cX3_weightAt 5 = .ok (.if_icmp .lt 7, 3) := by decide +kernel
theorem dX3_weightAt_8 : decode cX3_weightAt 8 = .ok (.iload_n 1, 1) := by decide +kernel
theorem dX3_weightAt_9 : decode cX3_weightAt 9 = .ok (.ifCond .ge 5, 3) := by decide +kernel
theorem dX3_weightAt_12 : decode cX3_weightAt 12 = .ok (.iconst 0, 1) := by decide +kernel
theorem dX3_weightAt_13 : decode cX3_weightAt 13 = .ok (.ireturn, 1) := by decide +kernel
theorem dX3_weightAt_14 : decode cX3_weightAt 14 = .ok (.aload_n 0, 1) := by decide +kernel
theorem dX3_weightAt_15 : decode cX3_weightAt 15 = .ok (.getfield 9, 3) := by decide +kernel
theorem dX3_weightAt_18 : decode cX3_weightAt 18 = .ok (.iload_n 1, 1) := by decide +kernel
theorem dX3_weightAt_19 : decode cX3_weightAt 19 = .ok (.aload_n 0, 1) := by decide +kernel
theorem dX3_weightAt_20 : decode cX3_weightAt 20 = .ok (.getfield 36, 3) := by decide +kernel
theorem dX3_weightAt_23 : decode cX3_weightAt 23 = .ok (.irem, 1) := by decide +kernel
theorem dX3_weightAt_24 : decode cX3_weightAt 24 = .ok (.iaload, 1) := by decide +kernel
theorem dX3_weightAt_25 : decode cX3_weightAt 25 = .ok (.ireturn, 1) := by decide +kernel
theorem dX3_areLevel_0 : decode cX3_areLevel 0 = .ok (.aload_n 0, 1) := by decide +kernel
theorem dX3_areLevel_1 : decode cX3_areLevel 1 = .ok (.iload_n 1, 1) := by decide +kernel
theorem dX3_areLevel_2 : decode cX3_areLevel 2 = .ok (.invokevirtual 56, 3) := by decide +kernel
theorem dX3_areLevel_5 : decode cX3_areLevel 5 = .ok (.ifCond .eq 35, 3) := by decide +kernel
theorem dX3_areLevel_8 : decode cX3_areLevel 8 = .ok (.aload_n 0, 1) := by decide +kernel
theorem dX3_areLevel_9 : decode cX3_areLevel 9 = .ok (.iload_n 2, 1) := by decide +kernel
theorem dX3_areLevel_10 : decode cX3_areLevel 10 = .ok (.invokevirtual 56, 3) := by decide +kernel
theorem dX3_areLevel_13 : decode cX3_areLevel 13 = .ok (.ifCond .eq 27, 3) := by decide +kernel
theorem dX3_areLevel_16 : decode cX3_areLevel 16 = .ok (.aload_n 0, 1) := by decide +kernel
theorem dX3_areLevel_17 : decode cX3_areLevel 17 = .ok (.getfield 21, 3) := by decide +kernel
theorem dX3_areLevel_20 : decode cX3_areLevel 20 = .ok (.iload_n 1, 1) := by decide +kernel
theorem dX3_areLevel_21 : decode cX3_areLevel 21 = .ok (.iaload, 1) := by decide +kernel
theorem dX3_areLevel_22 : decode cX3_areLevel 22 = .ok (.aload_n 0, 1) := by decide +kernel
theorem dX3_areLevel_23 : decode cX3_areLevel 23 = .ok (.getfield 21, 3) := by decide +kernel
theorem dX3_areLevel_26 : decode cX3_areLevel 26 = .ok (.iload_n 2, 1) := by decide +kernel
theorem dX3_areLevel_27 : decode cX3_areLevel 27 = .ok (.iaload, 1) := by decide +kernel
theorem dX3_areLevel_28 : decode cX3_areLevel 28 = .ok (.isub, 1) := by decide +kernel
theorem dX3_areLevel_29 : decode cX3_areLevel 29 = .ok (.invokestatic 60, 3) := by decide +kernel
theorem dX3_areLevel_32 : decode cX3_areLevel 32 = .ok (.iconst 1, 1) := by decide +kernel
theorem dX3_areLevel_33 : decode cX3_areLevel 33 = .ok (.if_icmp .gt 7, 3) := by decide +kernel
theorem dX3_areLevel_36 : decode cX3_areLevel 36 = .ok (.iconst 1, 1) := by decide +kernel
theorem dX3_areLevel_37 : decode cX3_areLevel 37 = .ok (.goto 4, 3) := by decide +kernel
theorem dX3_areLevel_40 : decode cX3_areLevel 40 = .ok (.iconst 0, 1) := by decide +kernel
theorem dX3_areLevel_41 : decode cX3_areLevel 41 = .ok (.ireturn, 1) := by decide +kernel
theorem dX3_isSon_0 : decode cX3_isSon 0 = .ok (.aload_n 0, 1) := by decide +kernel
theorem dX3_isSon_1 : decode cX3_isSon 1 = .ok (.iload_n 1, 1) := by decide +kernel
theorem dX3_isSon_2 : decode cX3_isSon 2 = .ok (.invokevirtual 56, 3) := by decide +kernel
theorem dX3_isSon_5 : decode cX3_isSon 5 = .ok (.ifCond .eq 25, 3) := by decide +kernel
theorem dX3_isSon_8 : decode cX3_isSon 8 = .ok (.aload_n 0, 1) := by decide +kernel
theorem dX3_isSon_9 : decode cX3_isSon 9 = .ok (.iload_n 2, 1) := by decide +kernel
theorem dX3_isSon_10 : decode cX3_isSon 10 = .ok (.invokevirtual 56, 3) := by decide +kernel
theorem dX3_isSon_13 : decode cX3_isSon 13 = .ok (.ifCond .eq 17, 3) := by decide +kernel
theorem dX3_isSon_16 : decode cX3_isSon 16 = .ok (.aload_n 0, 1) := by decide +kernel
theorem dX3_isSon_17 : decode cX3_isSon 17 = .ok (.getfield 27, 3) := by decide +kernel
theorem dX3_isSon_20 : decode cX3_isSon 20 = .ok (.iload_n 1, 1) := by decide +kernel
theorem dX3_isSon_21 : decode cX3_isSon 21 = .ok (.iaload, 1) := by decide +kernel
theorem dX3_isSon_22 : decode cX3_isSon 22 = .ok (.iload_n 2, 1) := by decide +kernel
theorem dX3_isSon_23 : decode cX3_isSon 23 = .ok (.if_icmp .ne 7, 3) := by decide +kernel
theorem dX3_isSon_26 : decode cX3_isSon 26 = .ok (.iconst 1, 1) := by decide +kernel
theorem dX3_isSon_27 : decode cX3_isSon 27 = .ok (.goto 4, 3) := by decide +kernel
theorem dX3_isSon_30 : decode cX3_isSon 30 = .ok (.iconst 0, 1) := by decide +kernel
theorem dX3_isSon_31 : decode cX3_isSon 31 = .ok (.ireturn, 1) := by decide +kernel
theorem dX4_init_0 : decode cX4_init 0 = .ok (.aload_n 0, 1) := by decide +kernel
theorem dX4_init_1 : decode cX4_init 1 = .ok (.invokespecial 1, 3) := by decide +kernel
theorem dX4_init_4 : decode cX4_init 4 = .ok (.return_, 1) := by decide +kernel
theorem dX4_solve_0 : decode cX4_solve 0 = .ok (.aload_n 0, 1) := by decide +kernel
theorem dX4_solve_1 : decode cX4_solve 1 = .ok (.iload_n 1, 1) := by decide +kernel
theorem dX4_solve_2 : decode cX4_solve 2 = .ok (.putfield 7, 3) := by decide +kernel
theorem dX4_solve_5 : decode cX4_solve 5 = .ok (.aload_n 0, 1) := by decide +kernel
theorem dX4_solve_6 : decode cX4_solve 6 = .ok (.iload_n 2, 1) := by decide +kernel
theorem dX4_solve_7 : decode cX4_solve 7 = .ok (.putfield 13, 3) := by decide +kernel
theorem dX4_solve_10 : decode cX4_solve 10 = .ok (.aload_n 0, 1) := by decide +kernel
theorem dX4_solve_11 : decode cX4_solve 11 = .ok (.iload_n 3, 1) := by decide +kernel
theorem dX4_solve_12 : decode cX4_solve 12 = .ok (.putfield 16, 3) := by decide +kernel
theorem dX4_solve_15 : decode cX4_solve 15 = .ok (.aload_n 0, 1) := by decide +kernel
theorem dX4_solve_16 : decode cX4_solve 16 = .ok (.iload 4, 2) := by decide +kernel
theorem dX4_solve_18 : decode cX4_solve 18 = .ok (.putfield 19, 3) := by decide +kernel
theorem dX4_solve_21 : decode cX4_solve 21 = .ok (.aload_n 0, 1) := by decide +kernel
theorem dX4_solve_22 : decode cX4_solve 22 = .ok (.iconst 0, 1) := by decide +kernel
theorem dX4_solve_23 : decode cX4_solve 23 = .ok (.iconst 1, 1) := by decide +kernel
theorem dX4_solve_24 : decode cX4_solve 24 = .ok (.invokevirtual 22, 3) := by decide +kernel
theorem dX4_solve_27 : decode cX4_solve 27 = .ok (.aload_n 0, 1) := by decide +kernel
theorem dX4_solve_28 : decode cX4_solve 28 = .ok (.iload_n 1, 1) := by decide +kernel
theorem dX4_solve_29 : decode cX4_solve 29 = .ok (.iload_n 2, 1) := by decide +kernel
theorem dX4_solve_30 : decode cX4_solve 30 = .ok (.isub, 1) := by decide +kernel
theorem dX4_solve_31 : decode cX4_solve 31 = .ok (.iload_n 3, 1) := by decide +kernel
theorem dX4_solve_32 : decode cX4_solve 32 = .ok (.isub, 1) := by decide +kernel
theorem dX4_solve_33 : decode cX4_solve 33 = .ok (.iload 4, 2) := by decide +kernel
theorem dX4_solve_35 : decode cX4_solve 35 = .ok (.iadd, 1) := by decide +kernel
theorem dX4_solve_36 : decode cX4_solve 36 = .ok (.iload 4, 2) := by decide +kernel
theorem dX4_solve_38 : decode cX4_solve 38 = .ok (.iload_n 3, 1) := by decide +kernel
theorem dX4_solve_39 : decode cX4_solve 39 = .ok (.isub, 1) := by decide +kernel
theorem dX4_solve_40 : decode cX4_solve 40 = .ok (.invokevirtual 26, 3) := by decide +kernel
theorem dX4_solve_43 : decode cX4_solve 43 = .ok (.aload_n 0, 1) := by decide +kernel
theorem dX4_solve_44 : decode cX4_solve 44 = .ok (.iconst 1, 1) := by decide +kernel
theorem dX4_solve_45 : decode cX4_solve 45 = .ok (.iconst 1, 1) := by decide +kernel
theorem dX4_solve_46 : decode cX4_solve 46 = .ok (.invokevirtual 29, 3) := by decide +kernel
theorem dX4_solve_49 : decode cX4_solve 49 = .ok (.aload_n 0, 1) := by decide +kernel
theorem dX4_solve_50 : decode cX4_solve 50 = .ok (.getfield 32, 3) := by decide +kernel
theorem dX4_solve_53 : decode cX4_solve 53 = .ok (.aload_n 0, 1) := by decide +kernel
theorem dX4_solve_54 : decode cX4_solve 54 = .ok (.getfield 35, 3) := by decide +kernel
theorem dX4_solve_57 : decode cX4_solve 57 = .ok (.invokestatic 38, 3) := by decide +kernel
theorem dX4_solve_60 : decode cX4_solve 60 = .ok (.istore 5, 2) := by decide +kernel
theorem dX4_solve_62 : decode cX4_solve 62 = .ok (.aload_n 0, 1) := by decide +kernel
theorem dX4_solve_63 : decode cX4_solve 63 = .ok (.dup, 1) := by decide +kernel
theorem dX4_solve_64 : decode cX4_solve 64 = .ok (.getfield 32, 3) := by decide +kernel
theorem dX4_solve_67 : decode cX4_solve 67 = .ok (.iload 5, 2) := by decide +kernel
