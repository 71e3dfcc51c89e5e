theorem dx_234_18 : mj_at 234 18 = some (.iload_n 3) := by decide +kernel
theorem dx_234_19 : mj_at 234 19 = some (.aload_n 0) := by decide +kernel
theorem dx_234_20 : mj_at 234 20 = some (.arraylength) := by decide +kernel
theorem dx_234_21 : mj_at 234 21 = some (.bipush 6) := by decide +kernel
theorem dx_234_23 : mj_at 234 23 = some (.isub) := by decide +kernel
theorem dx_234_24 : mj_at 234 24 = some (.if_icmp .gt 1087) := by decide +kernel
theorem dx_234_27 : mj_at 234 27 = some (.aload_n 0) := by decide +kernel
theorem dx_234_28 : mj_at 234 28 = some (.iload_n 3) := by decide +kernel
theorem dx_234_29 : mj_at 234 29 = some (.iaload) := by decide +kernel
theorem dx_234_30 : mj_at 234 30 = some (.bipush 31) := by decide +kernel
theorem dx_234_32 : mj_at 234 32 = some (.iand) := by decide +kernel
theorem dx_234_33 : mj_at 234 33 = some (.tableswitch 1072 0 30 #[139, 172, 215, 258, 321, 344, 367, 390, 413, 446, 479, 512, 535, 558, 591, 624, 657, 700, 733, 766, 799, 832, 845, 878, 911, 944, 977, 1000, 1013, 1026, 1049]) := by decide +kernel
theorem dx_234_172 : mj_at 234 172 = some (.aload_n 1) := by decide +kernel
theorem dx_234_173 : mj_at 234 173 = some (.aload_n 0) := by decide +kernel
theorem dx_234_174 : mj_at 234 174 = some (.iload_n 3) := by decide +kernel
theorem dx_234_175 : mj_at 234 175 = some (.iconst 1) := by decide +kernel
theorem dx_234_176 : mj_at 234 176 = some (.iadd) := by decide +kernel
theorem dx_234_177 : mj_at 234 177 = some (.iaload) := by decide +kernel
theorem dx_234_178 : mj_at 234 178 = some (.aload_n 0) := by decide +kernel
theorem dx_234_179 : mj_at 234 179 = some (.iload_n 3) := by decide +kernel
theorem dx_234_180 : mj_at 234 180 = some (.iconst 2) := by decide +kernel
theorem dx_234_181 : mj_at 234 181 = some (.iadd) := by decide +kernel
theorem dx_234_182 : mj_at 234 182 = some (.iaload) := by decide +kernel
theorem dx_234_183 : mj_at 234 183 = some (.invokevirtual 13) := by decide +kernel
theorem dx_234_186 : mj_at 234 186 = some (.aload_n 2) := by decide +kernel
theorem dx_234_187 : mj_at 234 187 = some (.aload_n 0) := by decide +kernel
theorem dx_234_188 : mj_at 234 188 = some (.iload_n 3) := by decide +kernel
theorem dx_234_189 : mj_at 234 189 = some (.iconst 1) := by decide +kernel
theorem dx_234_190 : mj_at 234 190 = some (.iadd) := by decide +kernel
theorem dx_234_191 : mj_at 234 191 = some (.iaload) := by decide +kernel
theorem dx_234_192 : mj_at 234 192 = some (.aload_n 0) := by decide +kernel
theorem dx_234_193 : mj_at 234 193 = some (.iload_n 3) := by decide +kernel
theorem dx_234_194 : mj_at 234 194 = some (.iconst 2) := by decide +kernel
theorem dx_234_195 : mj_at 234 195 = some (.iadd) := by decide +kernel
theorem dx_234_196 : mj_at 234 196 = some (.iaload) := by decide +kernel
theorem dx_234_197 : mj_at 234 197 = some (.invokevirtual 17) := by decide +kernel
theorem dx_234_200 : mj_at 234 200 = some (.if_icmp .eq 905) := by decide +kernel
theorem dx_234_203 : mj_at 234 203 = some (.iconst 0) := by decide +kernel
theorem dx_234_204 : mj_at 234 204 = some (.ireturn) := by decide +kernel
theorem dx_234_205 : mj_at 234 205 = some (.aload_n 1) := by decide +kernel
theorem dx_234_206 : mj_at 234 206 = some (.aload_n 0) := by decide +kernel
theorem dx_234_207 : mj_at 234 207 = some (.iload_n 3) := by decide +kernel
theorem dx_234_208 : mj_at 234 208 = some (.iconst 1) := by decide +kernel
theorem dx_234_209 : mj_at 234 209 = some (.iadd) := by decide +kernel
theorem dx_234_210 : mj_at 234 210 = some (.iaload) := by decide +kernel
theorem dx_234_211 : mj_at 234 211 = some (.aload_n 0) := by decide +kernel
theorem dx_234_212 : mj_at 234 212 = some (.iload_n 3) := by decide +kernel
theorem dx_234_213 : mj_at 234 213 = some (.iconst 2) := by decide +kernel
theorem dx_234_214 : mj_at 234 214 = some (.iadd) := by decide +kernel
theorem dx_234_215 : mj_at 234 215 = some (.iaload) := by decide +kernel
theorem dx_234_216 : mj_at 234 216 = some (.aload_n 0) := by decide +kernel
theorem dx_234_217 : mj_at 234 217 = some (.iload_n 3) := by decide +kernel
theorem dx_234_218 : mj_at 234 218 = some (.iconst 3) := by decide +kernel
theorem dx_234_219 : mj_at 234 219 = some (.iadd) := by decide +kernel
theorem dx_234_220 : mj_at 234 220 = some (.iaload) := by decide +kernel
theorem dx_234_221 : mj_at 234 221 = some (.invokevirtual 18) := by decide +kernel
theorem dx_234_224 : mj_at 234 224 = some (.aload_n 2) := by decide +kernel
theorem dx_234_225 : mj_at 234 225 = some (.aload_n 0) := by decide +kernel
theorem dx_234_226 : mj_at 234 226 = some (.iload_n 3) := by decide +kernel
theorem dx_234_227 : mj_at 234 227 = some (.iconst 1) := by decide +kernel
theorem dx_234_228 : mj_at 234 228 = some (.iadd) := by decide +kernel
theorem dx_234_229 : mj_at 234 229 = some (.iaload) := by decide +kernel
theorem dx_234_230 : mj_at 234 230 = some (.aload_n 0) := by decide +kernel
theorem dx_234_231 : mj_at 234 231 = some (.iload_n 3) := by decide +kernel
theorem dx_234_232 : mj_at 234 232 = some (.iconst 2) := by decide +kernel
theorem dx_234_233 : mj_at 234 233 = some (.iadd) := by decide +kernel
theorem dx_234_234 : mj_at 234 234 = some (.iaload) := by decide +kernel
theorem dx_234_235 : mj_at 234 235 = some (.aload_n 0) := by decide +kernel
theorem dx_234_236 : mj_at 234 236 = some (.iload_n 3) := by decide +kernel
theorem dx_234_237 : mj_at 234 237 = some (.iconst 3) := by decide +kernel
theorem dx_234_238 : mj_at 234 238 = some (.iadd) := by decide +kernel
theorem dx_234_239 : mj_at 234 239 = some (.iaload) := by decide +kernel
theorem dx_234_240 : mj_at 234 240 = some (.invokevirtual 22) := by decide +kernel
theorem dx_234_243 : mj_at 234 243 = some (.if_icmp .eq 862) := by decide +kernel
theorem dx_234_246 : mj_at 234 246 = some (.iconst 0) := by decide +kernel
theorem dx_234_247 : mj_at 234 247 = some (.ireturn) := by decide +kernel
theorem dx_234_248 : mj_at 234 248 = some (.aload_n 1) := by decide +kernel
theorem dx_234_249 : mj_at 234 249 = some (.aload_n 0) := by decide +kernel
theorem dx_234_250 : mj_at 234 250 = some (.iload_n 3) := by decide +kernel
theorem dx_234_251 : mj_at 234 251 = some (.iconst 1) := by decide +kernel
theorem dx_234_252 : mj_at 234 252 = some (.iadd) := by decide +kernel
theorem dx_234_253 : mj_at 234 253 = some (.iaload) := by decide +kernel
theorem dx_234_254 : mj_at 234 254 = some (.aload_n 0) := by decide +kernel
theorem dx_234_255 : mj_at 234 255 = some (.iload_n 3) := by decide +kernel
theorem dx_234_256 : mj_at 234 256 = some (.iconst 2) := by decide +kernel
theorem dx_234_257 : mj_at 234 257 = some (.iadd) := by decide +kernel
theorem dx_234_258 : mj_at 234 258 = some (.iaload) := by decide +kernel
theorem dx_234_259 : mj_at 234 259 = some (.aload_n 0) := by decide +kernel
theorem dx_234_260 : mj_at 234 260 = some (.iload_n 3) := by decide +kernel
theorem dx_234_261 : mj_at 234 261 = some (.iconst 3) := by decide +kernel
theorem dx_234_262 : mj_at 234 262 = some (.iadd) := by decide +kernel
theorem dx_234_263 : mj_at 234 263 = some (.iaload) := by decide +kernel
theorem dx_234_264 : mj_at 234 264 = some (.invokevirtual 23) := by decide +kernel
theorem dx_234_267 : mj_at 234 267 = some (.aload_n 2) := by decide +kernel
theorem dx_234_268 : mj_at 234 268 = some (.aload_n 0) := by decide +kernel
theorem dx_234_269 : mj_at 234 269 = some (.iload_n 3) := by decide +kernel
theorem dx_234_270 : mj_at 234 270 = some (.iconst 1) := by decide +kernel
theorem dx_234_271 : mj_at 234 271 = some (.iadd) := by decide +kernel
theorem dx_234_272 : mj_at 234 272 = some (.iaload) := by decide +kernel
theorem dx_234_273 : mj_at 234 273 = some (.aload_n 0) := by decide +kernel
theorem dx_234_274 : mj_at 234 274 = some (.iload_n 3) := by decide +kernel
theorem dx_234_275 : mj_at 234 275 = some (.iconst 2) := by decide +kernel
theorem dx_234_276 : mj_at 234 276 = some (.iadd) := by decide +kernel
theorem dx_234_277 : mj_at 234 277 = some (.iaload) := by decide +kernel
theorem dx_234_278 : mj_at 234 278 = some (.aload_n 0) := by decide +kernel
theorem dx_234_279 : mj_at 234 279 = some (.iload_n 3) := by decide +kernel
theorem dx_234_280 : mj_at 234 280 = some (.iconst 3) := by decide +kernel
theorem dx_234_281 : mj_at 234 281 = some (.iadd) := by decide +kernel
theorem dx_234_282 : mj_at 234 282 = some (.iaload) := by decide +kernel
theorem dx_234_283 : mj_at 234 283 = some (.invokevirtual 26) := by decide +kernel
theorem dx_234_286 : mj_at 234 286 = some (.if_icmp .eq 819) := by decide +kernel
theorem dx_234_289 : mj_at 234 289 = some (.iconst 0) := by decide +kernel
theorem dx_234_290 : mj_at 234 290 = some (.ireturn) := by decide +kernel
theorem dx_234_291 : mj_at 234 291 = some (.aload_n 1) := by decide +kernel
theorem dx_234_292 : mj_at 234 292 = some (.aload_n 0) := by decide +kernel
theorem dx_234_293 : mj_at 234 293 = some (.iload_n 3) := by decide +kernel
theorem dx_234_294 : mj_at 234 294 = some (.iconst 1) := by decide +kernel
theorem dx_234_295 : mj_at 234 295 = some (.iadd) := by decide +kernel
theorem dx_234_296 : mj_at 234 296 = some (.iaload) := by decide +kernel
theorem dx_234_297 : mj_at 234 297 = some (.aload_n 0) := by decide +kernel
theorem dx_234_298 : mj_at 234 298 = some (.iload_n 3) := by decide +kernel
theorem dx_234_299 : mj_at 234 299 = some (.iconst 2) := by decide +kernel
theorem dx_234_300 : mj_at 234 300 = some (.iadd) := by decide +kernel
theorem dx_234_301 : mj_at 234 301 = some (.iaload) := by decide +kernel
theorem dx_234_302 : mj_at 234 302 = some (.aload_n 0) := by decide +kernel
theorem dx_234_303 : mj_at 234 303 = some (.iload_n 3) := by decide +kernel
theorem dx_234_304 : mj_at 234 304 = some (.iconst 3) := by decide +kernel
theorem dx_234_305 : mj_at 234 305 = some (.iadd) := by decide +kernel
theorem dx_234_306 : mj_at 234 306 = some (.iaload) := by decide +kernel
theorem dx_234_307 : mj_at 234 307 = some (.aload_n 0) := by decide +kernel
theorem dx_234_308 : mj_at 234 308 = some (.iload_n 3) := by decide +kernel
theorem dx_234_309 : mj_at 234 309 = some (.iconst 4) := by decide +kernel
theorem dx_234_310 : mj_at 234 310 = some (.iadd) := by decide +kernel
theorem dx_234_311 : mj_at 234 311 = some (.iaload) := by decide +kernel
theorem dx_234_312 : mj_at 234 312 = some (.aload_n 0) := by decide +kernel
theorem dx_234_313 : mj_at 234 313 = some (.iload_n 3) := by decide +kernel
theorem dx_234_314 : mj_at 234 314 = some (.iconst 5) := by decide +kernel
theorem dx_234_315 : mj_at 234 315 = some (.iadd) := by decide +kernel
theorem dx_234_316 : mj_at 234 316 = some (.iaload) := by decide +kernel
theorem dx_234_317 : mj_at 234 317 = some (.invokevirtual 27) := by decide +kernel
theorem dx_234_320 : mj_at 234 320 = some (.aload_n 2) := by decide +kernel
theorem dx_234_321 : mj_at 234 321 = some (.aload_n 0) := by decide +kernel
theorem dx_234_322 : mj_at 234 322 = some (.iload_n 3) := by decide +kernel
theorem dx_234_323 : mj_at 234 323 = some (.iconst 1) := by decide +kernel
theorem dx_234_324 : mj_at 234 324 = some (.iadd) := by decide +kernel
theorem dx_234_325 : mj_at 234 325 = some (.iaload) := by decide +kernel
theorem dx_234_326 : mj_at 234 326 = some (.aload_n 0) := by decide +kernel
theorem dx_234_327 : mj_at 234 327 = some (.iload_n 3) := by decide +kernel
theorem dx_234_328 : mj_at 234 328 = some (.iconst 2) := by decide +kernel
theorem dx_234_329 : mj_at 234 329 = some (.iadd) := by decide +kernel
theorem dx_234_330 : mj_at 234 330 = some (.iaload) := by decide +kernel
theorem dx_234_331 : mj_at 234 331 = some (.aload_n 0) := by decide +kernel
theorem dx_234_332 : mj_at 234 332 = some (.iload_n 3) := by decide +kernel
theorem dx_234_333 : mj_at 234 333 = some (.iconst 3) := by decide +kernel
theorem dx_234_334 : mj_at 234 334 = some (.iadd) := by decide +kernel
theorem dx_234_335 : mj_at 234 335 = some (.iaload) := by decide +kernel
theorem dx_234_336 : mj_at 234 336 = some (.aload_n 0) := by decide +kernel
theorem dx_234_337 : mj_at 234 337 = some (.iload_n 3) := by decide +kernel
theorem dx_234_338 : mj_at 234 338 = some (.iconst 4) := by decide +kernel
theorem dx_234_339 : mj_at 234 339 = some (.iadd) := by decide +kernel
theorem dx_234_340 : mj_at 234 340 = some (.iaload) := by decide +kernel
theorem dx_234_341 : mj_at 234 341 = some (.aload_n 0) := by decide +kernel
theorem dx_234_342 : mj_at 234 342 = some (.iload_n 3) := by decide +kernel
theorem dx_234_343 : mj_at 234 343 = some (.iconst 5) := by decide +kernel
theorem dx_234_344 : mj_at 234 344 = some (.iadd) := by decide +kernel
theorem dx_234_345 : mj_at 234 345 = some (.iaload) := by decide +kernel
theorem dx_234_346 : mj_at 234 346 = some (.invokevirtual 31) := by decide +kernel
theorem dx_234_349 : mj_at 234 349 = some (.if_icmp .eq 756) := by decide +kernel
theorem dx_234_352 : mj_at 234 352 = some (.iconst 0) := by decide +kernel
theorem dx_234_353 : mj_at 234 353 = some (.ireturn) := by decide +kernel
theorem dx_234_354 : mj_at 234 354 = some (.aload_n 1) := by decide +kernel
theorem dx_234_355 : mj_at 234 355 = some (.aload_n 0) := by decide +kernel
theorem dx_234_356 : mj_at 234 356 = some (.iload_n 3) := by decide +kernel
theorem dx_234_357 : mj_at 234 357 = some (.iconst 1) := by decide +kernel
theorem dx_234_358 : mj_at 234 358 = some (.iadd) := by decide +kernel
theorem dx_234_359 : mj_at 234 359 = some (.iaload) := by decide +kernel
theorem dx_234_360 : mj_at 234 360 = some (.invokevirtual 32) := by decide +kernel
theorem dx_234_363 : mj_at 234 363 = some (.aload_n 2) := by decide +kernel
theorem dx_234_364 : mj_at 234 364 = some (.aload_n 0) := by decide +kernel
theorem dx_234_365 : mj_at 234 365 = some (.iload_n 3) := by decide +kernel
theorem dx_234_366 : mj_at 234 366 = some (.iconst 1) := by decide +kernel
theorem dx_234_367 : mj_at 234 367 = some (.iadd) := by decide +kernel
theorem dx_234_368 : mj_at 234 368 = some (.iaload) := by decide +kernel
theorem dx_234_369 : mj_at 234 369 = some (.invokevirtual 36) := by decide +kernel
theorem dx_234_372 : mj_at 234 372 = some (.if_icmp .eq 733) := by decide +kernel
theorem dx_234_375 : mj_at 234 375 = some (.iconst 0) := by decide +kernel
theorem dx_234_376 : mj_at 234 376 = some (.ireturn) := by decide +kernel
theorem dx_234_377 : mj_at 234 377 = some (.aload_n 1) := by decide +kernel
theorem dx_234_378 : mj_at 234 378 = some (.aload_n 0) := by decide +kernel
theorem dx_234_379 : mj_at 234 379 = some (.iload_n 3) := by decide +kernel
theorem dx_234_380 : mj_at 234 380 = some (.iconst 1) := by decide +kernel
theorem dx_234_381 : mj_at 234 381 = some (.iadd) := by decide +kernel
theorem dx_234_382 : mj_at 234 382 = some (.iaload) := by decide +kernel
theorem dx_234_383 : mj_at 234 383 = some (.invokevirtual 37) := by decide +kernel
theorem dx_234_386 : mj_at 234 386 = some (.aload_n 2) := by decide +kernel
theorem dx_234_387 : mj_at 234 387 = some (.aload_n 0) := by decide +kernel
theorem dx_234_388 : mj_at 234 388 = some (.iload_n 3) := by decide +kernel
theorem dx_234_389 : mj_at 234 389 = some (.iconst 1) := by decide +kernel
theorem dx_234_390 : mj_at 234 390 = some (.iadd) := by decide +kernel
theorem dx_234_391 : mj_at 234 391 = some (.iaload) := by decide +kernel
theorem dx_234_392 : mj_at 234 392 = some (.invokevirtual 40) := by decide +kernel
theorem dx_234_395 : mj_at 234 395 = some (.if_icmp .eq 710) := by decide +kernel
theorem dx_234_398 : mj_at 234 398 = some (.iconst 0) := by decide +kernel
theorem dx_234_399 : mj_at 234 399 = some (.ireturn) := by decide +kernel
theorem dx_234_400 : mj_at 234 400 = some (.aload_n 1) := by decide +kernel
theorem dx_234_401 : mj_at 234 401 = some (.aload_n 0) := by decide +kernel
theorem dx_234_402 : mj_at 234 402 = some (.iload_n 3) := by decide +kernel
theorem dx_234_403 : mj_at 234 403 = some (.iconst 1) := by decide +kernel
theorem dx_234_404 : mj_at 234 404 = some (.iadd) := by decide +kernel
theorem dx_234_405 : mj_at 234 405 = some (.iaload) := by decide +kernel
theorem dx_234_406 : mj_at 234 406 = some (.invokevirtual 41) := by decide +kernel
theorem dx_234_409 : mj_at 234 409 = some (.aload_n 2) := by decide +kernel
theorem dx_234_410 : mj_at 234 410 = some (.aload_n 0) := by decide +kernel
theorem dx_234_411 : mj_at 234 411 = some (.iload_n 3) := by decide +kernel
theorem dx_234_412 : mj_at 234 412 = some (.iconst 1) := by decide +kernel
theorem dx_234_413 : mj_at 234 413 = some (.iadd) := by decide +kernel
theorem dx_234_414 : mj_at 234 414 = some (.iaload) := by decide +kernel
theorem dx_234_415 : mj_at 234 415 = some (.invokevirtual 44) := by decide +kernel
theorem dx_234_418 : mj_at 234 418 = some (.if_icmp .eq 687) := by decide +kernel
theorem dx_234_421 : mj_at 234 421 = some (.iconst 0) := by decide +kernel
theorem dx_234_422 : mj_at 234 422 = some (.ireturn) := by decide +kernel
theorem dx_234_423 : mj_at 234 423 = some (.aload_n 1) := by decide +kernel
theorem dx_234_424 : mj_at 234 424 = some (.aload_n 0) := by decide +kernel
theorem dx_234_425 : mj_at 234 425 = some (.iload_n 3) := by decide +kernel
theorem dx_234_426 : mj_at 234 426 = some (.iconst 1) := by decide +kernel
theorem dx_234_427 : mj_at 234 427 = some (.iadd) := by decide +kernel
theorem dx_234_428 : mj_at 234 428 = some (.iaload) := by decide +kernel
theorem dx_234_429 : mj_at 234 429 = some (.invokevirtual 45) := by decide +kernel
theorem dx_234_432 : mj_at 234 432 = some (.aload_n 2) := by decide +kernel
theorem dx_234_433 : mj_at 234 433 = some (.aload_n 0) := by decide +kernel
theorem dx_234_434 : mj_at 234 434 = some (.iload_n 3) := by decide +kernel
theorem dx_234_435 : mj_at 234 435 = some (.iconst 1) := by decide +kernel
theorem dx_234_436 : mj_at 234 436 = some (.iadd) := by decide +kernel
theorem dx_234_437 : mj_at 234 437 = some (.iaload) := by decide +kernel
theorem dx_234_438 : mj_at 234 438 = some (.invokevirtual 48) := by decide +kernel
theorem dx_234_441 : mj_at 234 441 = some (.if_icmp .eq 664) := by decide +kernel
theorem dx_234_444 : mj_at 234 444 = some (.iconst 0) := by decide +kernel
theorem dx_234_445 : mj_at 234 445 = some (.ireturn) := by decide +kernel
theorem dx_234_446 : mj_at 234 446 = some (.aload_n 1) := by decide +kernel
theorem dx_234_447 : mj_at 234 447 = some (.aload_n 0) := by decide +kernel
theorem dx_234_448 : mj_at 234 448 = some (.iload_n 3) := by decide +kernel
theorem dx_234_449 : mj_at 234 449 = some (.iconst 1) := by decide +kernel
theorem dx_234_450 : mj_at 234 450 = some (.iadd) := by decide +kernel
theorem dx_234_451 : mj_at 234 451 = some (.iaload) := by decide +kernel
theorem dx_234_452 : mj_at 234 452 = some (.aload_n 0) := by decide +kernel
theorem dx_234_453 : mj_at 234 453 = some (.iload_n 3) := by decide +kernel
theorem dx_234_454 : mj_at 234 454 = some (.iconst 2) := by decide +kernel
theorem dx_234_455 : mj_at 234 455 = some (.iadd) := by decide +kernel
theorem dx_234_456 : mj_at 234 456 = some (.iaload) := by decide +kernel
theorem dx_234_457 : mj_at 234 457 = some (.invokevirtual 49) := by decide +kernel
theorem dx_234_460 : mj_at 234 460 = some (.aload_n 2) := by decide +kernel
theorem dx_234_461 : mj_at 234 461 = some (.aload_n 0) := by decide +kernel
theorem dx_234_462 : mj_at 234 462 = some (.iload_n 3) := by decide +kernel
theorem dx_234_463 : mj_at 234 463 = some (.iconst 1) := by decide +kernel
theorem dx_234_464 : mj_at 234 464 = some (.iadd) := by decide +kernel
theorem dx_234_465 : mj_at 234 465 = some (.iaload) := by decide +kernel
theorem dx_234_466 : mj_at 234 466 = some (.aload_n 0) := by decide +kernel
theorem dx_234_467 : mj_at 234 467 = some (.iload_n 3) := by decide +kernel
theorem dx_234_468 : mj_at 234 468 = some (.iconst 2) := by decide +kernel
theorem dx_234_469 : mj_at 234 469 = some (.iadd) := by decide +kernel
theorem dx_234_470 : mj_at 234 470 = some (.iaload) := by decide +kernel
theorem dx_234_471 : mj_at 234 471 = some (.invokevirtual 53) := by decide +kernel
theorem dx_234_474 : mj_at 234 474 = some (.if_icmp .eq 631) := by decide +kernel
theorem dx_234_477 : mj_at 234 477 = some (.iconst 0) := by decide +kernel
theorem dx_234_478 : mj_at 234 478 = some (.ireturn) := by decide +kernel
theorem dx_234_479 : mj_at 234 479 = some (.aload_n 1) := by decide +kernel
theorem dx_234_480 : mj_at 234 480 = some (.aload_n 0) := by decide +kernel
theorem dx_234_481 : mj_at 234 481 = some (.iload_n 3) := by decide +kernel
theorem dx_234_482 : mj_at 234 482 = some (.iconst 1) := by decide +kernel
theorem dx_234_483 : mj_at 234 483 = some (.iadd) := by decide +kernel
theorem dx_234_484 : mj_at 234 484 = some (.iaload) := by decide +kernel
theorem dx_234_485 : mj_at 234 485 = some (.aload_n 0) := by decide +kernel
theorem dx_234_486 : mj_at 234 486 = some (.iload_n 3) := by decide +kernel
theorem dx_234_487 : mj_at 234 487 = some (.iconst 2) := by decide +kernel
theorem dx_234_488 : mj_at 234 488 = some (.iadd) := by decide +kernel
theorem dx_234_489 : mj_at 234 489 = some (.iaload) := by decide +kernel
theorem dx_234_490 : mj_at 234 490 = some (.invokevirtual 54) := by decide +kernel
theorem dx_234_493 : mj_at 234 493 = some (.aload_n 2) := by decide +kernel
theorem dx_234_494 : mj_at 234 494 = some (.aload_n 0) := by decide +kernel
theorem dx_234_495 : mj_at 234 495 = some (.iload_n 3) := by decide +kernel
theorem dx_234_496 : mj_at 234 496 = some (.iconst 1) := by decide +kernel
theorem dx_234_497 : mj_at 234 497 = some (.iadd) := by decide +kernel
theorem dx_234_498 : mj_at 234 498 = some (.iaload) := by decide +kernel
theorem dx_234_499 : mj_at 234 499 = some (.aload_n 0) := by decide +kernel
theorem dx_234_500 : mj_at 234 500 = some (.iload_n 3) := by decide +kernel
theorem dx_234_501 : mj_at 234 501 = some (.iconst 2) := by decide +kernel
theorem dx_234_502 : mj_at 234 502 = some (.iadd) := by decide +kernel
theorem dx_234_503 : mj_at 234 503 = some (.iaload) := by decide +kernel
theorem dx_234_504 : mj_at 234 504 = some (.invokevirtual 57) := by decide +kernel
theorem dx_234_507 : mj_at 234 507 = some (.if_icmp .eq 598) := by decide +kernel
theorem dx_234_510 : mj_at 234 510 = some (.iconst 0) := by decide +kernel
theorem dx_234_511 : mj_at 234 511 = some (.ireturn) := by decide +kernel
theorem dx_234_512 : mj_at 234 512 = some (.aload_n 1) := by decide +kernel
theorem dx_234_513 : mj_at 234 513 = some (.aload_n 0) := by decide +kernel
theorem dx_234_514 : mj_at 234 514 = some (.iload_n 3) := by decide +kernel
theorem dx_234_515 : mj_at 234 515 = some (.iconst 1) := by decide +kernel
theorem dx_234_516 : mj_at 234 516 = some (.iadd) := by decide +kernel
theorem dx_234_517 : mj_at 234 517 = some (.iaload) := by decide +kernel
theorem dx_234_518 : mj_at 234 518 = some (.aload_n 0) := by decide +kernel
theorem dx_234_519 : mj_at 234 519 = some (.iload_n 3) := by decide +kernel
theorem dx_234_520 : mj_at 234 520 = some (.iconst 2) := by decide +kernel
theorem dx_234_521 : mj_at 234 521 = some (.iadd) := by decide +kernel
theorem dx_234_522 : mj_at 234 522 = some (.iaload) := by decide +kernel
theorem dx_234_523 : mj_at 234 523 = some (.invokevirtual 58) := by decide +kernel
theorem dx_234_526 : mj_at 234 526 = some (.aload_n 2) := by decide +kernel
theorem dx_234_527 : mj_at 234 527 = some (.aload_n 0) := by decide +kernel
theorem dx_234_528 : mj_at 234 528 = some (.iload_n 3) := by decide +kernel
theorem dx_234_529 : mj_at 234 529 = some (.iconst 1) := by decide +kernel
theorem dx_234_530 : mj_at 234 530 = some (.iadd) := by decide +kernel
theorem dx_234_531 : mj_at 234 531 = some (.iaload) := by decide +kernel
theorem dx_234_532 : mj_at 234 532 = some (.aload_n 0) := by decide +kernel
theorem dx_234_533 : mj_at 234 533 = some (.iload_n 3) := by decide +kernel
theorem dx_234_534 : mj_at 234 534 = some (.iconst 2) := by decide +kernel
theorem dx_234_535 : mj_at 234 535 = some (.iadd) := by decide +kernel
theorem dx_234_536 : mj_at 234 536 = some (.iaload) := by decide +kernel
theorem dx_234_537 : mj_at 234 537 = some (.invokevirtual 61) := by decide +kernel
theorem dx_234_540 : mj_at 234 540 = some (.if_icmp .eq 565) := by decide +kernel
theorem dx_234_543 : mj_at 234 543 = some (.iconst 0) := by decide +kernel
theorem dx_234_544 : mj_at 234 544 = some (.ireturn) := by decide +kernel
theorem dx_234_545 : mj_at 234 545 = some (.aload_n 1) := by decide +kernel
theorem dx_234_546 : mj_at 234 546 = some (.aload_n 0) := by decide +kernel
theorem dx_234_547 : mj_at 234 547 = some (.iload_n 3) := by decide +kernel
theorem dx_234_548 : mj_at 234 548 = some (.iconst 1) := by decide +kernel
theorem dx_234_549 : mj_at 234 549 = some (.iadd) := by decide +kernel
theorem dx_234_550 : mj_at 234 550 = some (.iaload) := by decide +kernel
theorem dx_234_551 : mj_at 234 551 = some (.invokevirtual 62) := by decide +kernel
theorem dx_234_554 : mj_at 234 554 = some (.aload_n 2) := by decide +kernel
theorem dx_234_555 : mj_at 234 555 = some (.aload_n 0) := by decide +kernel
theorem dx_234_556 : mj_at 234 556 = some (.iload_n 3) := by decide +kernel
theorem dx_234_557 : mj_at 234 557 = some (.iconst 1) := by decide +kernel
theorem dx_234_558 : mj_at 234 558 = some (.iadd) := by decide +kernel
theorem dx_234_559 : mj_at 234 559 = some (.iaload) := by decide +kernel
theorem dx_234_560 : mj_at 234 560 = some (.invokevirtual 65) := by decide +kernel
theorem dx_234_563 : mj_at 234 563 = some (.if_icmp .eq 542) := by decide +kernel
theorem dx_234_566 : mj_at 234 566 = some (.iconst 0) := by decide +kernel
theorem dx_234_567 : mj_at 234 567 = some (.ireturn) := by decide +kernel
theorem dx_234_568 : mj_at 234 568 = some (.aload_n 1) := by decide +kernel
theorem dx_234_569 : mj_at 234 569 = some (.aload_n 0) := by decide +kernel
theorem dx_234_570 : mj_at 234 570 = some (.iload_n 3) := by decide +kernel
theorem dx_234_571 : mj_at 234 571 = some (.iconst 1) := by decide +kernel
theorem dx_234_572 : mj_at 234 572 = some (.iadd) := by decide +kernel
theorem dx_234_573 : mj_at 234 573 = some (.iaload) := by decide +kernel
theorem dx_234_574 : mj_at 234 574 = some (.invokevirtual 66) := by decide +kernel
theorem dx_234_577 : mj_at 234 577 = some (.aload_n 2) := by decide +kernel
theorem dx_234_578 : mj_at 234 578 = some (.aload_n 0) := by decide +kernel
theorem dx_234_579 : mj_at 234 579 = some (.iload_n 3) := by decide +kernel
theorem dx_234_580 : mj_at 234 580 = some (.iconst 1) := by decide +kernel
theorem dx_234_581 : mj_at 234 581 = some (.iadd) := by decide +kernel
theorem dx_234_582 : mj_at 234 582 = some (.iaload) := by decide +kernel
theorem dx_234_583 : mj_at 234 583 = some (.invokevirtual 69) := by decide +kernel
theorem dx_234_586 : mj_at 234 586 = some (.if_icmp .eq 519) := by decide +kernel
theorem dx_234_589 : mj_at 234 589 = some (.iconst 0) := by decide +kernel
theorem dx_234_590 : mj_at 234 590 = some (.ireturn) := by decide +kernel
theorem dx_234_591 : mj_at 234 591 = some (.aload_n 1) := by decide +kernel
theorem dx_234_592 : mj_at 234 592 = some (.aload_n 0) := by decide +kernel
theorem dx_234_593 : mj_at 234 593 = some (.iload_n 3) := by decide +kernel
theorem dx_234_594 : mj_at 234 594 = some (.iconst 1) := by decide +kernel
theorem dx_234_595 : mj_at 234 595 = some (.iadd) := by decide +kernel
theorem dx_234_596 : mj_at 234 596 = some (.iaload) := by decide +kernel
theorem dx_234_597 : mj_at 234 597 = some (.aload_n 0) := by decide +kernel
theorem dx_234_598 : mj_at 234 598 = some (.iload_n 3) := by decide +kernel
theorem dx_234_599 : mj_at 234 599 = some (.iconst 2) := by decide +kernel
theorem dx_234_600 : mj_at 234 600 = some (.iadd) := by decide +kernel
theorem dx_234_601 : mj_at 234 601 = some (.iaload) := by decide +kernel
theorem dx_234_602 : mj_at 234 602 = some (.invokevirtual 70) := by decide +kernel
theorem dx_234_605 : mj_at 234 605 = some (.aload_n 2) := by decide +kernel
theorem dx_234_606 : mj_at 234 606 = some (.aload_n 0) := by decide +kernel
theorem dx_234_607 : mj_at 234 607 = some (.iload_n 3) := by decide +kernel
theorem dx_234_608 : mj_at 234 608 = some (.iconst 1) := by decide +kernel
theorem dx_234_609 : mj_at 234 609 = some (.iadd) := by decide +kernel
theorem dx_234_610 : mj_at 234 610 = some (.iaload) := by decide +kernel
theorem dx_234_611 : mj_at 234 611 = some (.aload_n 0) := by decide +kernel
theorem dx_234_612 : mj_at 234 612 = some (.iload_n 3) := by decide +kernel
theorem dx_234_613 : mj_at 234 613 = some (.iconst 2) := by decide +kernel
theorem dx_234_614 : mj_at 234 614 = some (.iadd) := by decide +kernel
theorem dx_234_615 : mj_at 234 615 = some (.iaload) := by decide +kernel
theorem dx_234_616 : mj_at 234 616 = some (.invokevirtual 73) := by decide +kernel
theorem dx_234_619 : mj_at 234 619 = some (.if_icmp .eq 486) := by decide +kernel
theorem dx_234_622 : mj_at 234 622 = some (.iconst 0) := by decide +kernel
theorem dx_234_623 : mj_at 234 623 = some (.ireturn) := by decide +kernel
theorem dx_234_624 : mj_at 234 624 = some (.aload_n 1) := by decide +kernel
theorem dx_234_625 : mj_at 234 625 = some (.aload_n 0) := by decide +kernel
theorem dx_234_626 : mj_at 234 626 = some (.iload_n 3) := by decide +kernel
theorem dx_234_627 : mj_at 234 627 = some (.iconst 1) := by decide +kernel
theorem dx_234_628 : mj_at 234 628 = some (.iadd) := by decide +kernel
theorem dx_234_629 : mj_at 234 629 = some (.iaload) := by decide +kernel
theorem dx_234_630 : mj_at 234 630 = some (.aload_n 0) := by decide +kernel
theorem dx_234_631 : mj_at 234 631 = some (.iload_n 3) := by decide +kernel
theorem dx_234_632 : mj_at 234 632 = some (.iconst 2) := by decide +kernel
theorem dx_234_633 : mj_at 234 633 = some (.iadd) := by decide +kernel
theorem dx_234_634 : mj_at 234 634 = some (.iaload) := by decide +kernel
theorem dx_234_635 : mj_at 234 635 = some (.invokevirtual 74) := by decide +kernel
theorem dx_234_638 : mj_at 234 638 = some (.aload_n 2) := by decide +kernel
theorem dx_234_639 : mj_at 234 639 = some (.aload_n 0) := by decide +kernel
theorem dx_234_640 : mj_at 234 640 = some (.iload_n 3) := by decide +kernel
theorem dx_234_641 : mj_at 234 641 = some (.iconst 1) := by decide +kernel
theorem dx_234_642 : mj_at 234 642 = some (.iadd) := by decide +kernel
theorem dx_234_643 : mj_at 234 643 = some (.iaload) := by decide +kernel
theorem dx_234_644 : mj_at 234 644 = some (.aload_n 0) := by decide +kernel
theorem dx_234_645 : mj_at 234 645 = some (.iload_n 3) := by decide +kernel
theorem dx_234_646 : mj_at 234 646 = some (.iconst 2) := by decide +kernel
theorem dx_234_647 : mj_at 234 647 = some (.iadd) := by decide +kernel
theorem dx_234_648 : mj_at 234 648 = some (.iaload) := by decide +kernel
theorem dx_234_649 : mj_at 234 649 = some (.invokevirtual 77) := by decide +kernel
theorem dx_234_652 : mj_at 234 652 = some (.if_icmp .eq 453) := by decide +kernel
theorem dx_234_655 : mj_at 234 655 = some (.iconst 0) := by decide +kernel
theorem dx_234_656 : mj_at 234 656 = some (.ireturn) := by decide +kernel
theorem dx_234_657 : mj_at 234 657 = some (.aload_n 1) := by decide +kernel
theorem dx_234_658 : mj_at 234 658 = some (.aload_n 0) := by decide +kernel
theorem dx_234_659 : mj_at 234 659 = some (.iload_n 3) := by decide +kernel
theorem dx_234_660 : mj_at 234 660 = some (.iconst 1) := by decide +kernel
theorem dx_234_661 : mj_at 234 661 = some (.iadd) := by decide +kernel
theorem dx_234_662 : mj_at 234 662 = some (.iaload) := by decide +kernel
theorem dx_234_663 : mj_at 234 663 = some (.aload_n 0) := by decide +kernel
theorem dx_234_664 : mj_at 234 664 = some (.iload_n 3) := by decide +kernel
theorem dx_234_665 : mj_at 234 665 = some (.iconst 2) := by decide +kernel
theorem dx_234_666 : mj_at 234 666 = some (.iadd) := by decide +kernel
theorem dx_234_667 : mj_at 234 667 = some (.iaload) := by decide +kernel
theorem dx_234_668 : mj_at 234 668 = some (.invokevirtual 78) := by decide +kernel
theorem dx_234_671 : mj_at 234 671 = some (.aload_n 2) := by decide +kernel
theorem dx_234_672 : mj_at 234 672 = some (.aload_n 0) := by decide +kernel
theorem dx_234_673 : mj_at 234 673 = some (.iload_n 3) := by decide +kernel
theorem dx_234_674 : mj_at 234 674 = some (.iconst 1) := by decide +kernel
theorem dx_234_675 : mj_at 234 675 = some (.iadd) := by decide +kernel
theorem dx_234_676 : mj_at 234 676 = some (.iaload) := by decide +kernel
theorem dx_234_677 : mj_at 234 677 = some (.aload_n 0) := by decide +kernel
theorem dx_234_678 : mj_at 234 678 = some (.iload_n 3) := by decide +kernel
theorem dx_234_679 : mj_at 234 679 = some (.iconst 2) := by decide +kernel
theorem dx_234_680 : mj_at 234 680 = some (.iadd) := by decide +kernel
theorem dx_234_681 : mj_at 234 681 = some (.iaload) := by decide +kernel
theorem dx_234_682 : mj_at 234 682 = some (.invokevirtual 81) := by decide +kernel
theorem dx_234_685 : mj_at 234 685 = some (.if_icmp .eq 420) := by decide +kernel
theorem dx_234_688 : mj_at 234 688 = some (.iconst 0) := by decide +kernel
theorem dx_234_689 : mj_at 234 689 = some (.ireturn) := by decide +kernel
theorem dx_234_690 : mj_at 234 690 = some (.aload_n 1) := by decide +kernel
theorem dx_234_691 : mj_at 234 691 = some (.aload_n 0) := by decide +kernel
theorem dx_234_692 : mj_at 234 692 = some (.iload_n 3) := by decide +kernel
theorem dx_234_693 : mj_at 234 693 = some (.iconst 1) := by decide +kernel
theorem dx_234_694 : mj_at 234 694 = some (.iadd) := by decide +kernel
theorem dx_234_695 : mj_at 234 695 = some (.iaload) := by decide +kernel
theorem dx_234_696 : mj_at 234 696 = some (.aload_n 0) := by decide +kernel
theorem dx_234_697 : mj_at 234 697 = some (.iload_n 3) := by decide +kernel
theorem dx_234_698 : mj_at 234 698 = some (.iconst 2) := by decide +kernel
theorem dx_234_699 : mj_at 234 699 = some (.iadd) := by decide +kernel
theorem dx_234_700 : mj_at 234 700 = some (.iaload) := by decide +kernel
theorem dx_234_701 : mj_at 234 701 = some (.aload_n 0) := by decide +kernel
theorem dx_234_702 : mj_at 234 702 = some (.iload_n 3) := by decide +kernel
theorem dx_234_703 : mj_at 234 703 = some (.iconst 3) := by decide +kernel
theorem dx_234_704 : mj_at 234 704 = some (.iadd) := by decide +kernel
theorem dx_234_705 : mj_at 234 705 = some (.iaload) := by decide +kernel
theorem dx_234_706 : mj_at 234 706 = some (.invokevirtual 82) := by decide +kernel
theorem dx_234_709 : mj_at 234 709 = some (.aload_n 2) := by decide +kernel
theorem dx_234_710 : mj_at 234 710 = some (.aload_n 0) := by decide +kernel
theorem dx_234_711 : mj_at 234 711 = some (.iload_n 3) := by decide +kernel
theorem dx_234_712 : mj_at 234 712 = some (.iconst 1) := by decide +kernel
theorem dx_234_713 : mj_at 234 713 = some (.iadd) := by decide +kernel
theorem dx_234_714 : mj_at 234 714 = some (.iaload) := by decide +kernel
theorem dx_234_715 : mj_at 234 715 = some (.aload_n 0) := by decide +kernel
theorem dx_234_716 : mj_at 234 716 = some (.iload_n 3) := by decide +kernel
theorem dx_234_717 : mj_at 234 717 = some (.iconst 2) := by decide +kernel
theorem dx_234_718 : mj_at 234 718 = some (.iadd) := by decide +kernel
theorem dx_234_719 : mj_at 234 719 = some (.iaload) := by decide +kernel
theorem dx_234_720 : mj_at 234 720 = some (.aload_n 0) := by decide +kernel
theorem dx_234_721 : mj_at 234 721 = some (.iload_n 3) := by decide +kernel
theorem dx_234_722 : mj_at 234 722 = some (.iconst 3) := by decide +kernel
theorem dx_234_723 : mj_at 234 723 = some (.iadd) := by decide +kernel
theorem dx_234_724 : mj_at 234 724 = some (.iaload) := by decide +kernel
theorem dx_234_725 : mj_at 234 725 = some (.invokevirtual 86) := by decide +kernel
theorem dx_234_728 : mj_at 234 728 = some (.if_icmp .eq 377) := by decide +kernel
theorem dx_234_731 : mj_at 234 731 = some (.iconst 0) := by decide +kernel
theorem dx_234_732 : mj_at 234 732 = some (.ireturn) := by decide +kernel
theorem dx_234_733 : mj_at 234 733 = some (.aload_n 1) := by decide +kernel
theorem dx_234_734 : mj_at 234 734 = some (.aload_n 0) := by decide +kernel
theorem dx_234_735 : mj_at 234 735 = some (.iload_n 3) := by decide +kernel
theorem dx_234_736 : mj_at 234 736 = some (.iconst 1) := by decide +kernel
theorem dx_234_737 : mj_at 234 737 = some (.iadd) := by decide +kernel
theorem dx_234_738 : mj_at 234 738 = some (.iaload) := by decide +kernel
theorem dx_234_739 : mj_at 234 739 = some (.aload_n 0) := by decide +kernel
theorem dx_234_740 : mj_at 234 740 = some (.iload_n 3) := by decide +kernel
theorem dx_234_741 : mj_at 234 741 = some (.iconst 2) := by decide +kernel
theorem dx_234_742 : mj_at 234 742 = some (.iadd) := by decide +kernel
theorem dx_234_743 : mj_at 234 743 = some (.iaload) := by decide +kernel
theorem dx_234_744 : mj_at 234 744 = some (.invokevirtual 87) := by decide +kernel
theorem dx_234_747 : mj_at 234 747 = some (.aload_n 2) := by decide +kernel
theorem dx_234_748 : mj_at 234 748 = some (.aload_n 0) := by decide +kernel
theorem dx_234_749 : mj_at 234 749 = some (.iload_n 3) := by decide +kernel
theorem dx_234_750 : mj_at 234 750 = some (.iconst 1) := by decide +kernel
theorem dx_234_751 : mj_at 234 751 = some (.iadd) := by decide +kernel
theorem dx_234_752 : mj_at 234 752 = some (.iaload) := by decide +kernel
theorem dx_234_753 : mj_at 234 753 = some (.aload_n 0) := by decide +kernel
theorem dx_234_754 : mj_at 234 754 = some (.iload_n 3) := by decide +kernel
theorem dx_234_755 : mj_at 234 755 = some (.iconst 2) := by decide +kernel
theorem dx_234_756 : mj_at 234 756 = some (.iadd) := by decide +kernel
theorem dx_234_757 : mj_at 234 757 = some (.iaload) := by decide +kernel
theorem dx_234_758 : mj_at 234 758 = some (.invokevirtual 90) := by decide +kernel
theorem dx_234_761 : mj_at 234 761 = some (.if_icmp .eq 344) := by decide +kernel
theorem dx_234_764 : mj_at 234 764 = some (.iconst 0) := by decide +kernel
theorem dx_234_765 : mj_at 234 765 = some (.ireturn) := by decide +kernel
theorem dx_234_766 : mj_at 234 766 = some (.aload_n 1) := by decide +kernel
theorem dx_234_767 : mj_at 234 767 = some (.aload_n 0) := by decide +kernel
theorem dx_234_768 : mj_at 234 768 = some (.iload_n 3) := by decide +kernel
theorem dx_234_769 : mj_at 234 769 = some (.iconst 1) := by decide +kernel
theorem dx_234_770 : mj_at 234 770 = some (.iadd) := by decide +kernel
theorem dx_234_771 : mj_at 234 771 = some (.iaload) := by decide +kernel
theorem dx_234_772 : mj_at 234 772 = some (.aload_n 0) := by decide +kernel
theorem dx_234_773 : mj_at 234 773 = some (.iload_n 3) := by decide +kernel
theorem dx_234_774 : mj_at 234 774 = some (.iconst 2) := by decide +kernel
theorem dx_234_775 : mj_at 234 775 = some (.iadd) := by decide +kernel
theorem dx_234_776 : mj_at 234 776 = some (.iaload) := by decide +kernel
theorem dx_234_777 : mj_at 234 777 = some (.invokevirtual 91) := by decide +kernel
theorem dx_234_780 : mj_at 234 780 = some (.aload_n 2) := by decide +kernel
theorem dx_234_781 : mj_at 234 781 = some (.aload_n 0) := by decide +kernel
theorem dx_234_782 : mj_at 234 782 = some (.iload_n 3) := by decide +kernel
theorem dx_234_783 : mj_at 234 783 = some (.iconst 1) := by decide +kernel
theorem dx_234_784 : mj_at 234 784 = some (.iadd) := by decide +kernel
theorem dx_234_785 : mj_at 234 785 = some (.iaload) := by decide +kernel
theorem dx_234_786 : mj_at 234 786 = some (.aload_n 0) := by decide +kernel
theorem dx_234_787 : mj_at 234 787 = some (.iload_n 3) := by decide +kernel
theorem dx_234_788 : mj_at 234 788 = some (.iconst 2) := by decide +kernel
theorem dx_234_789 : mj_at 234 789 = some (.iadd) := by decide +kernel
theorem dx_234_790 : mj_at 234 790 = some (.iaload) := by decide +kernel
theorem dx_234_791 : mj_at 234 791 = some (.invokevirtual 94) := by decide +kernel
theorem dx_234_794 : mj_at 234 794 = some (.if_icmp .eq 311) := by decide +kernel
theorem dx_234_797 : mj_at 234 797 = some (.iconst 0) := by decide +kernel
theorem dx_234_798 : mj_at 234 798 = some (.ireturn) := by decide +kernel
theorem dx_234_799 : mj_at 234 799 = some (.aload_n 1) := by decide +kernel
theorem dx_234_800 : mj_at 234 800 = some (.aload_n 0) := by decide +kernel
theorem dx_234_801 : mj_at 234 801 = some (.iload_n 3) := by decide +kernel
theorem dx_234_802 : mj_at 234 802 = some (.iconst 1) := by decide +kernel
theorem dx_234_803 : mj_at 234 803 = some (.iadd) := by decide +kernel
theorem dx_234_804 : mj_at 234 804 = some (.iaload) := by decide +kernel
theorem dx_234_805 : mj_at 234 805 = some (.aload_n 0) := by decide +kernel
theorem dx_234_806 : mj_at 234 806 = some (.iload_n 3) := by decide +kernel
theorem dx_234_807 : mj_at 234 807 = some (.iconst 2) := by decide +kernel
theorem dx_234_808 : mj_at 234 808 = some (.iadd) := by decide +kernel
theorem dx_234_809 : mj_at 234 809 = some (.iaload) := by decide +kernel
theorem dx_234_810 : mj_at 234 810 = some (.invokevirtual 95) := by decide +kernel
theorem dx_234_813 : mj_at 234 813 = some (.aload_n 2) := by decide +kernel
theorem dx_234_814 : mj_at 234 814 = some (.aload_n 0) := by decide +kernel
theorem dx_234_815 : mj_at 234 815 = some (.iload_n 3) := by decide +kernel
theorem dx_234_816 : mj_at 234 816 = some (.iconst 1) := by decide +kernel
theorem dx_234_817 : mj_at 234 817 = some (.iadd) := by decide +kernel
theorem dx_234_818 : mj_at 234 818 = some (.iaload) := by decide +kernel
theorem dx_234_819 : mj_at 234 819 = some (.aload_n 0) := by decide +kernel
theorem dx_234_820 : mj_at 234 820 = some (.iload_n 3) := by decide +kernel
theorem dx_234_821 : mj_at 234 821 = some (.iconst 2) := by decide +kernel
theorem dx_234_822 : mj_at 234 822 = some (.iadd) := by decide +kernel
theorem dx_234_823 : mj_at 234 823 = some (.iaload) := by decide +kernel
theorem dx_234_824 : mj_at 234 824 = some (.invokevirtual 98) := by decide +kernel
theorem dx_234_827 : mj_at 234 827 = some (.if_icmp .eq 278) := by decide +kernel
theorem dx_234_830 : mj_at 234 830 = some (.iconst 0) := by decide +kernel
theorem dx_234_831 : mj_at 234 831 = some (.ireturn) := by decide +kernel
theorem dx_234_832 : mj_at 234 832 = some (.aload_n 1) := by decide +kernel
theorem dx_234_833 : mj_at 234 833 = some (.aload_n 0) := by decide +kernel
theorem dx_234_834 : mj_at 234 834 = some (.iload_n 3) := by decide +kernel
theorem dx_234_835 : mj_at 234 835 = some (.iconst 1) := by decide +kernel
theorem dx_234_836 : mj_at 234 836 = some (.iadd) := by decide +kernel
theorem dx_234_837 : mj_at 234 837 = some (.iaload) := by decide +kernel
theorem dx_234_838 : mj_at 234 838 = some (.aload_n 0) := by decide +kernel
theorem dx_234_839 : mj_at 234 839 = some (.iload_n 3) := by decide +kernel
theorem dx_234_840 : mj_at 234 840 = some (.iconst 2) := by decide +kernel
theorem dx_234_841 : mj_at 234 841 = some (.iadd) := by decide +kernel
theorem dx_234_842 : mj_at 234 842 = some (.iaload) := by decide +kernel
theorem dx_234_843 : mj_at 234 843 = some (.invokevirtual 99) := by decide +kernel
theorem dx_234_846 : mj_at 234 846 = some (.aload_n 2) := by decide +kernel
theorem dx_234_847 : mj_at 234 847 = some (.aload_n 0) := by decide +kernel
theorem dx_234_848 : mj_at 234 848 = some (.iload_n 3) := by decide +kernel
theorem dx_234_849 : mj_at 234 849 = some (.iconst 1) := by decide +kernel
theorem dx_234_850 : mj_at 234 850 = some (.iadd) := by decide +kernel
theorem dx_234_851 : mj_at 234 851 = some (.iaload) := by decide +kernel
theorem dx_234_852 : mj_at 234 852 = some (.aload_n 0) := by decide +kernel
theorem dx_234_853 : mj_at 234 853 = some (.iload_n 3) := by decide +kernel
theorem dx_234_854 : mj_at 234 854 = some (.iconst 2) := by decide +kernel
theorem dx_234_855 : mj_at 234 855 = some (.iadd) := by decide +kernel
theorem dx_234_856 : mj_at 234 856 = some (.iaload) := by decide +kernel
theorem dx_234_857 : mj_at 234 857 = some (.invokevirtual 102) := by decide +kernel
theorem dx_234_860 : mj_at 234 860 = some (.if_icmp .eq 245) := by decide +kernel
theorem dx_234_863 : mj_at 234 863 = some (.iconst 0) := by decide +kernel
theorem dx_234_864 : mj_at 234 864 = some (.ireturn) := by decide +kernel
theorem dx_234_865 : mj_at 234 865 = some (.aload_n 1) := by decide +kernel
theorem dx_234_866 : mj_at 234 866 = some (.invokevirtual 103) := by decide +kernel
theorem dx_234_869 : mj_at 234 869 = some (.aload_n 2) := by decide +kernel
theorem dx_234_870 : mj_at 234 870 = some (.invokevirtual 107) := by decide +kernel
theorem dx_234_873 : mj_at 234 873 = some (.if_icmp .eq 232) := by decide +kernel
theorem dx_234_876 : mj_at 234 876 = some (.iconst 0) := by decide +kernel
theorem dx_234_877 : mj_at 234 877 = some (.ireturn) := by decide +kernel
theorem dx_234_878 : mj_at 234 878 = some (.aload_n 1) := by decide +kernel
theorem dx_234_879 : mj_at 234 879 = some (.aload_n 0) := by decide +kernel
theorem dx_234_880 : mj_at 234 880 = some (.iload_n 3) := by decide +kernel
theorem dx_234_881 : mj_at 234 881 = some (.iconst 1) := by decide +kernel
theorem dx_234_882 : mj_at 234 882 = some (.iadd) := by decide +kernel
theorem dx_234_883 : mj_at 234 883 = some (.iaload) := by decide +kernel
theorem dx_234_884 : mj_at 234 884 = some (.aload_n 0) := by decide +kernel
theorem dx_234_885 : mj_at 234 885 = some (.iload_n 3) := by decide +kernel
theorem dx_234_886 : mj_at 234 886 = some (.iconst 2) := by decide +kernel
theorem dx_234_887 : mj_at 234 887 = some (.iadd) := by decide +kernel
theorem dx_234_888 : mj_at 234 888 = some (.iaload) := by decide +kernel
theorem dx_234_889 : mj_at 234 889 = some (.invokevirtual 108) := by decide +kernel
theorem dx_234_892 : mj_at 234 892 = some (.aload_n 2) := by decide +kernel
theorem dx_234_893 : mj_at 234 893 = some (.aload_n 0) := by decide +kernel
theorem dx_234_894 : mj_at 234 894 = some (.iload_n 3) := by decide +kernel
theorem dx_234_895 : mj_at 234 895 = some (.iconst 1) := by decide +kernel
theorem dx_234_896 : mj_at 234 896 = some (.iadd) := by decide +kernel
theorem dx_234_897 : mj_at 234 897 = some (.iaload) := by decide +kernel
theorem dx_234_898 : mj_at 234 898 = some (.aload_n 0) := by decide +kernel
theorem dx_234_899 : mj_at 234 899 = some (.iload_n 3) := by decide +kernel
theorem dx_234_900 : mj_at 234 900 = some (.iconst 2) := by decide +kernel
theorem dx_234_901 : mj_at 234 901 = some (.iadd) := by decide +kernel
theorem dx_234_902 : mj_at 234 902 = some (.iaload) := by decide +kernel
theorem dx_234_903 : mj_at 234 903 = some (.invokevirtual 111) := by decide +kernel
theorem dx_234_906 : mj_at 234 906 = some (.if_icmp .eq 199) := by decide +kernel
theorem dx_234_909 : mj_at 234 909 = some (.iconst 0) := by decide +kernel
theorem dx_234_910 : mj_at 234 910 = some (.ireturn) := by decide +kernel
theorem dx_234_911 : mj_at 234 911 = some (.aload_n 1) := by decide +kernel
theorem dx_234_912 : mj_at 234 912 = some (.aload_n 0) := by decide +kernel
theorem dx_234_913 : mj_at 234 913 = some (.iload_n 3) := by decide +kernel
theorem dx_234_914 : mj_at 234 914 = some (.iconst 1) := by decide +kernel
theorem dx_234_915 : mj_at 234 915 = some (.iadd) := by decide +kernel
theorem dx_234_916 : mj_at 234 916 = some (.iaload) := by decide +kernel
theorem dx_234_917 : mj_at 234 917 = some (.aload_n 0) := by decide +kernel
theorem dx_234_918 : mj_at 234 918 = some (.iload_n 3) := by decide +kernel
theorem dx_234_919 : mj_at 234 919 = some (.iconst 2) := by decide +kernel
theorem dx_234_920 : mj_at 234 920 = some (.iadd) := by decide +kernel
theorem dx_234_921 : mj_at 234 921 = some (.iaload) := by decide +kernel
theorem dx_234_922 : mj_at 234 922 = some (.invokevirtual 112) := by decide +kernel
theorem dx_234_925 : mj_at 234 925 = some (.aload_n 2) := by decide +kernel
theorem dx_234_926 : mj_at 234 926 = some (.aload_n 0) := by decide +kernel
theorem dx_234_927 : mj_at 234 927 = some (.iload_n 3) := by decide +kernel
theorem dx_234_928 : mj_at 234 928 = some (.iconst 1) := by decide +kernel
theorem dx_234_929 : mj_at 234 929 = some (.iadd) := by decide +kernel
theorem dx_234_930 : mj_at 234 930 = some (.iaload) := by decide +kernel
theorem dx_234_931 : mj_at 234 931 = some (.aload_n 0) := by decide +kernel
theorem dx_234_932 : mj_at 234 932 = some (.iload_n 3) := by decide +kernel
theorem dx_234_933 : mj_at 234 933 = some (.iconst 2) := by decide +kernel
theorem dx_234_934 : mj_at 234 934 = some (.iadd) := by decide +kernel
theorem dx_234_935 : mj_at 234 935 = some (.iaload) := by decide +kernel
theorem dx_234_936 : mj_at 234 936 = some (.invokevirtual 115) := by decide +kernel
theorem dx_234_939 : mj_at 234 939 = some (.if_icmp .eq 166) := by decide +kernel
theorem dx_234_942 : mj_at 234 942 = some (.iconst 0) := by decide +kernel
theorem dx_234_943 : mj_at 234 943 = some (.ireturn) := by decide +kernel
theorem dx_234_944 : mj_at 234 944 = some (.aload_n 1) := by decide +kernel
theorem dx_234_945 : mj_at 234 945 = some (.aload_n 0) := by decide +kernel
theorem dx_234_946 : mj_at 234 946 = some (.iload_n 3) := by decide +kernel
theorem dx_234_947 : mj_at 234 947 = some (.iconst 1) := by decide +kernel
theorem dx_234_948 : mj_at 234 948 = some (.iadd) := by decide +kernel
theorem dx_234_949 : mj_at 234 949 = some (.iaload) := by decide +kernel
theorem dx_234_950 : mj_at 234 950 = some (.aload_n 0) := by decide +kernel
theorem dx_234_951 : mj_at 234 951 = some (.iload_n 3) := by decide +kernel
theorem dx_234_952 : mj_at 234 952 = some (.iconst 2) := by decide +kernel
theorem dx_234_953 : mj_at 234 953 = some (.iadd) := by decide +kernel
theorem dx_234_954 : mj_at 234 954 = some (.iaload) := by decide +kernel
theorem dx_234_955 : mj_at 234 955 = some (.invokevirtual 116) := by decide +kernel
theorem dx_234_958 : mj_at 234 958 = some (.aload_n 2) := by decide +kernel
theorem dx_234_959 : mj_at 234 959 = some (.aload_n 0) := by decide +kernel
theorem dx_234_960 : mj_at 234 960 = some (.iload_n 3) := by decide +kernel
theorem dx_234_961 : mj_at 234 961 = some (.iconst 1) := by decide +kernel
theorem dx_234_962 : mj_at 234 962 = some (.iadd) := by decide +kernel
theorem dx_234_963 : mj_at 234 963 = some (.iaload) := by decide +kernel
theorem dx_234_964 : mj_at 234 964 = some (.aload_n 0) := by decide +kernel
theorem dx_234_965 : mj_at 234 965 = some (.iload_n 3) := by decide +kernel
theorem dx_234_966 : mj_at 234 966 = some (.iconst 2) := by decide +kernel
theorem dx_234_967 : mj_at 234 967 = some (.iadd) := by decide +kernel
theorem dx_234_968 : mj_at 234 968 = some (.iaload) := by decide +kernel
theorem dx_234_969 : mj_at 234 969 = some (.invokevirtual 119) := by decide +kernel
theorem dx_234_972 : mj_at 234 972 = some (.if_icmp .eq 133) := by decide +kernel
theorem dx_234_975 : mj_at 234 975 = some (.iconst 0) := by decide +kernel
theorem dx_234_976 : mj_at 234 976 = some (.ireturn) := by decide +kernel
theorem dx_234_977 : mj_at 234 977 = some (.aload_n 1) := by decide +kernel
theorem dx_234_978 : mj_at 234 978 = some (.aload_n 0) := by decide +kernel
theorem dx_234_979 : mj_at 234 979 = some (.iload_n 3) := by decide +kernel
theorem dx_234_980 : mj_at 234 980 = some (.iconst 1) := by decide +kernel
theorem dx_234_981 : mj_at 234 981 = some (.iadd) := by decide +kernel
theorem dx_234_982 : mj_at 234 982 = some (.iaload) := by decide +kernel
theorem dx_234_983 : mj_at 234 983 = some (.aload_n 0) := by decide +kernel
theorem dx_234_984 : mj_at 234 984 = some (.iload_n 3) := by decide +kernel
theorem dx_234_985 : mj_at 234 985 = some (.iconst 2) := by decide +kernel
theorem dx_234_986 : mj_at 234 986 = some (.iadd) := by decide +kernel
theorem dx_234_987 : mj_at 234 987 = some (.iaload) := by decide +kernel
theorem dx_234_988 : mj_at 234 988 = some (.invokevirtual 120) := by decide +kernel
theorem dx_234_991 : mj_at 234 991 = some (.aload_n 2) := by decide +kernel
theorem dx_234_992 : mj_at 234 992 = some (.aload_n 0) := by decide +kernel
theorem dx_234_993 : mj_at 234 993 = some (.iload_n 3) := by decide +kernel
theorem dx_234_994 : mj_at 234 994 = some (.iconst 1) := by decide +kernel
theorem dx_234_995 : mj_at 234 995 = some (.iadd) := by decide +kernel
theorem dx_234_996 : mj_at 234 996 = some (.iaload) := by decide +kernel
theorem dx_234_997 : mj_at 234 997 = some (.aload_n 0) := by decide +kernel
theorem dx_234_998 : mj_at 234 998 = some (.iload_n 3) := by decide +kernel
theorem dx_234_999 : mj_at 234 999 = some (.iconst 2) := by decide +kernel
theorem dx_234_1000 : mj_at 234 1000 = some (.iadd) := by decide +kernel
theorem dx_234_1001 : mj_at 234 1001 = some (.iaload) := by decide +kernel
theorem dx_234_1002 : mj_at 234 1002 = some (.invokevirtual 123) := by decide +kernel
theorem dx_234_1005 : mj_at 234 1005 = some (.if_icmp .eq 100) := by decide +kernel
theorem dx_234_1008 : mj_at 234 1008 = some (.iconst 0) := by decide +kernel
theorem dx_234_1009 : mj_at 234 1009 = some (.ireturn) := by decide +kernel
theorem dx_234_1010 : mj_at 234 1010 = some (.aload_n 1) := by decide +kernel
theorem dx_234_1011 : mj_at 234 1011 = some (.aload_n 0) := by decide +kernel
theorem dx_234_1012 : mj_at 234 1012 = some (.iload_n 3) := by decide +kernel
theorem dx_234_1013 : mj_at 234 1013 = some (.iconst 1) := by decide +kernel
theorem dx_234_1014 : mj_at 234 1014 = some (.iadd) := by decide +kernel
theorem dx_234_1015 : mj_at 234 1015 = some (.iaload) := by decide +kernel
theorem dx_234_1016 : mj_at 234 1016 = some (.invokevirtual 124) := by decide +kernel
theorem dx_234_1019 : mj_at 234 1019 = some (.aload_n 2) := by decide +kernel
theorem dx_234_1020 : mj_at 234 1020 = some (.aload_n 0) := by decide +kernel
theorem dx_234_1021 : mj_at 234 1021 = some (.iload_n 3) := by decide +kernel
theorem dx_234_1022 : mj_at 234 1022 = some (.iconst 1) := by decide +kernel
theorem dx_234_1023 : mj_at 234 1023 = some (.iadd) := by decide +kernel
theorem dx_234_1024 : mj_at 234 1024 = some (.iaload) := by decide +kernel
theorem dx_234_1025 : mj_at 234 1025 = some (.invokevirtual 128) := by decide +kernel
theorem dx_234_1028 : mj_at 234 1028 = some (.if_icmp .eq 77) := by decide +kernel
theorem dx_234_1031 : mj_at 234 1031 = some (.iconst 0) := by decide +kernel
theorem dx_234_1032 : mj_at 234 1032 = some (.ireturn) := by decide +kernel
theorem dx_234_1033 : mj_at 234 1033 = some (.aload_n 1) := by decide +kernel
theorem dx_234_1034 : mj_at 234 1034 = some (.invokevirtual 129) := by decide +kernel
theorem dx_234_1037 : mj_at 234 1037 = some (.aload_n 2) := by decide +kernel
theorem dx_234_1038 : mj_at 234 1038 = some (.invokevirtual 132) := by decide +kernel
theorem dx_234_1041 : mj_at 234 1041 = some (.if_icmp .eq 64) := by decide +kernel
theorem dx_234_1044 : mj_at 234 1044 = some (.iconst 0) := by decide +kernel
theorem dx_234_1045 : mj_at 234 1045 = some (.ireturn) := by decide +kernel
theorem dx_234_1046 : mj_at 234 1046 = some (.aload_n 1) := by decide +kernel
theorem dx_234_1047 : mj_at 234 1047 = some (.invokevirtual 133) := by decide +kernel
theorem dx_234_1050 : mj_at 234 1050 = some (.aload_n 2) := by decide +kernel
theorem dx_234_1051 : mj_at 234 1051 = some (.invokevirtual 137) := by decide +kernel
theorem dx_234_1054 : mj_at 234 1054 = some (.if_icmp .eq 51) := by decide +kernel
theorem dx_234_1057 : mj_at 234 1057 = some (.iconst 0) := by decide +kernel
theorem dx_234_1058 : mj_at 234 1058 = some (.ireturn) := by decide +kernel
theorem dx_234_1059 : mj_at 234 1059 = some (.aload_n 1) := by decide +kernel
theorem dx_234_1060 : mj_at 234 1060 = some (.aload_n 0) := by decide +kernel
theorem dx_234_1061 : mj_at 234 1061 = some (.iload_n 3) := by decide +kernel
theorem dx_234_1062 : mj_at 234 1062 = some (.iconst 1) := by decide +kernel
theorem dx_234_1063 : mj_at 234 1063 = some (.iadd) := by decide +kernel
theorem dx_234_1064 : mj_at 234 1064 = some (.iaload) := by decide +kernel
theorem dx_234_1065 : mj_at 234 1065 = some (.invokevirtual 138) := by decide +kernel
theorem dx_234_1068 : mj_at 234 1068 = some (.aload_n 2) := by decide +kernel
theorem dx_234_1069 : mj_at 234 1069 = some (.aload_n 0) := by decide +kernel
theorem dx_234_1070 : mj_at 234 1070 = some (.iload_n 3) := by decide +kernel
theorem dx_234_1071 : mj_at 234 1071 = some (.iconst 1) := by decide +kernel
theorem dx_234_1072 : mj_at 234 1072 = some (.iadd) := by decide +kernel
theorem dx_234_1073 : mj_at 234 1073 = some (.iaload) := by decide +kernel
theorem dx_234_1074 : mj_at 234 1074 = some (.invokevirtual 141) := by decide +kernel
theorem dx_234_1077 : mj_at 234 1077 = some (.if_icmp .eq 28) := by decide +kernel
theorem dx_234_1080 : mj_at 234 1080 = some (.iconst 0) := by decide +kernel
theorem dx_234_1081 : mj_at 234 1081 = some (.ireturn) := by decide +kernel
theorem dx_234_1082 : mj_at 234 1082 = some (.aload_n 1) := by decide +kernel
theorem dx_234_1083 : mj_at 234 1083 = some (.aload_n 0) := by decide +kernel
theorem dx_234_1084 : mj_at 234 1084 = some (.iload_n 3) := by decide +kernel
theorem dx_234_1085 : mj_at 234 1085 = some (.iconst 1) := by decide +kernel
theorem dx_234_1086 : mj_at 234 1086 = some (.iadd) := by decide +kernel
theorem dx_234_1087 : mj_at 234 1087 = some (.iaload) := by decide +kernel
theorem dx_234_1088 : mj_at 234 1088 = some (.invokevirtual 142) := by decide +kernel
theorem dx_234_1091 : mj_at 234 1091 = some (.aload_n 2) := by decide +kernel
theorem dx_234_1092 : mj_at 234 1092 = some (.aload_n 0) := by decide +kernel
theorem dx_234_1093 : mj_at 234 1093 = some (.iload_n 3) := by decide +kernel
theorem dx_234_1094 : mj_at 234 1094 = some (.iconst 1) := by decide +kernel
theorem dx_234_1095 : mj_at 234 1095 = some (.iadd) := by decide +kernel
theorem dx_234_1096 : mj_at 234 1096 = some (.iaload) := by decide +kernel
theorem dx_234_1097 : mj_at 234 1097 = some (.invokevirtual 145) := by decide +kernel
theorem dx_234_1100 : mj_at 234 1100 = some (.if_icmp .eq 5) := by decide +kernel
theorem dx_234_1103 : mj_at 234 1103 = some (.iconst 0) := by decide +kernel
theorem dx_234_1104 : mj_at 234 1104 = some (.ireturn) := by decide +kernel
theorem dx_234_1105 : mj_at 234 1105 = some (.iinc 3 6) := by decide +kernel
theorem dx_234_1108 : mj_at 234 1108 = some (.goto (-1090)) := by decide +kernel
theorem dx_234_1111 : mj_at 234 1111 = some (.iconst 1) := by decide +kernel
theorem dx_234_1112 : mj_at 234 1112 = some (.ireturn) := by decide +kernel
set_option maxRecDepth 10000 in
theorem b_L_law_18 {sl d : Nat} {M : mj_M} {y3 : Int32}  : mj_E sl (d + 1) 234 18 [.ref 72, .ref 0, .ref 45, .int y3] [] M = if y3 ≤ ((nI sl) - 6) then (if mj_inB y3 sl = true then (if (M 72 (y3 : Int32).toNatClampNeg) &&& 31 = 0 then (if mj_inB (y3 + 1) sl = true then (if mj_inB (y3 + 2) sl = true then ((mj_C sl d 78 [.ref 0, .int (M 72 (y3 + 1 : Int32).toNatClampNeg), .int (M 72 (y3 + 2 : Int32).toNatClampNeg)] M).bind (fun q1 => if mj_inB (y3 + 1) sl = true then (if mj_inB (y3 + 2) sl = true then ((mj_C sl d 141 [.ref 45, .int (q1.2 72 (y3 + 1 : Int32).toNatClampNeg), .int (q1.2 72 (y3 + 2 : Int32).toNatClampNeg)] q1.2).bind (fun q2 => if q1.1 = q2.1 then (mj_E sl (d + 1) 234 18 [.ref 72, .ref 0, .ref 45, .int (y3 + 6)] [] q2.2) else (some ((0 : Int32), q2.2)))) else none) else none)) else none) else none) else (if (M 72 (y3 : Int32).toNatClampNeg) &&& 31 = 1 then (if mj_inB (y3 + 1) sl = true then (if mj_inB (y3 + 2) sl = true then (if mj_inB (y3 + 3) sl = true then ((mj_C sl d 79 [.ref 0, .int (M 72 (y3 + 1 : Int32).toNatClampNeg), .int (M 72 (y3 + 2 : Int32).toNatClampNeg), .int (M 72 (y3 + 3 : Int32).toNatClampNeg)] M).bind (fun q3 => if mj_inB (y3 + 1) sl = true then (if mj_inB (y3 + 2) sl = true then (if mj_inB (y3 + 3) sl = true then ((mj_C sl d 142 [.ref 45, .int (q3.2 72 (y3 + 1 : Int32).toNatClampNeg), .int (q3.2 72 (y3 + 2 : Int32).toNatClampNeg), .int (q3.2 72 (y3 + 3 : Int32).toNatClampNeg)] q3.2).bind (fun q4 => if q3.1 = q4.1 then (mj_E sl (d + 1) 234 18 [.ref 72, .ref 0, .ref 45, .int (y3 + 6)] [] q4.2) else (some ((0 : Int32), q4.2)))) else none) else none) else none)) else none) else none) else none) else (if (M 72 (y3 : Int32).toNatClampNeg) &&& 31 = 2 then (if mj_inB (y3 + 1) sl = true then (if mj_inB (y3 + 2) sl = true then (if mj_inB (y3 + 3) sl = true then ((mj_C sl d 80 [.ref 0, .int (M 72 (y3 + 1 : Int32).toNatClampNeg), .int (M 72 (y3 + 2 : Int32).toNatClampNeg), .int (M 72 (y3 + 3 : Int32).toNatClampNeg)] M).bind (fun q5 => if mj_inB (y3 + 1) sl = true then (if mj_inB (y3 + 2) sl = true then (if mj_inB (y3 + 3) sl = true then ((mj_C sl d 143 [.ref 45, .int (q5.2 72 (y3 + 1 : Int32).toNatClampNeg), .int (q5.2 72 (y3 + 2 : Int32).toNatClampNeg), .int (q5.2 72 (y3 + 3 : Int32).toNatClampNeg)] q5.2).bind (fun q6 => if q5.1 = q6.1 then (mj_E sl (d + 1) 234 18 [.ref 72, .ref 0, .ref 45, .int (y3 + 6)] [] q6.2) else (some ((0 : Int32), q6.2)))) else none) else none) else none)) else none) else none) else none) else (if (M 72 (y3 : Int32).toNatClampNeg) &&& 31 = 3 then (if mj_inB (y3 + 1) sl = true then (if mj_inB (y3 + 2) sl = true then (if mj_inB (y3 + 3) sl = true then (if mj_inB (y3 + 4) sl = true then (if mj_inB (y3 + 5) sl = true then ((mj_C sl d 81 [.ref 0, .int (M 72 (y3 + 1 : Int32).toNatClampNeg), .int (M 72 (y3 + 2 : Int32).toNatClampNeg), .int (M 72 (y3 + 3 : Int32).toNatClampNeg), .int (M 72 (y3 + 4 : Int32).toNatClampNeg), .int (M 72 (y3 + 5 : Int32).toNatClampNeg)] M).bind (fun q7 => if mj_inB (y3 + 1) sl = true then (if mj_inB (y3 + 2) sl = true then (if mj_inB (y3 + 3) sl = true then (if mj_inB (y3 + 4) sl = true then (if mj_inB (y3 + 5) sl = true then ((mj_C sl d 145 [.ref 45, .int (q7.2 72 (y3 + 1 : Int32).toNatClampNeg), .int (q7.2 72 (y3 + 2 : Int32).toNatClampNeg), .int (q7.2 72 (y3 + 3 : Int32).toNatClampNeg), .int (q7.2 72 (y3 + 4 : Int32).toNatClampNeg), .int (q7.2 72 (y3 + 5 : Int32).toNatClampNeg)] q7.2).bind (fun q8 => if q7.1 = q8.1 then (mj_E sl (d + 1) 234 18 [.ref 72, .ref 0, .ref 45, .int (y3 + 6)] [] q8.2) else (some ((0 : Int32), q8.2)))) else none) else none) else none) else none) else none)) else none) else none) else none) else none) else none) else (if (M 72 (y3 : Int32).toNatClampNeg) &&& 31 = 4 then (if mj_inB (y3 + 1) sl = true then ((mj_C sl d 82 [.ref 0, .int (M 72 (y3 + 1 : Int32).toNatClampNeg)] M).bind (fun q9 => if mj_inB (y3 + 1) sl = true then ((mj_C sl d 168 [.ref 45, .int (q9.2 72 (y3 + 1 : Int32).toNatClampNeg)] q9.2).bind (fun q10 => if q9.1 = q10.1 then (mj_E sl (d + 1) 234 18 [.ref 72, .ref 0, .ref 45, .int (y3 + 6)] [] q10.2) else (some ((0 : Int32), q10.2)))) else none)) else none) else (if (M 72 (y3 : Int32).toNatClampNeg) &&& 31 = 5 then (if mj_inB (y3 + 1) sl = true then ((mj_C sl d 83 [.ref 0, .int (M 72 (y3 + 1 : Int32).toNatClampNeg)] M).bind (fun q11 => if mj_inB (y3 + 1) sl = true then ((mj_C sl d 176 [.ref 45, .int (q11.2 72 (y3 + 1 : Int32).toNatClampNeg)] q11.2).bind (fun q12 => if q11.1 = q12.1 then (mj_E sl (d + 1) 234 18 [.ref 72, .ref 0, .ref 45, .int (y3 + 6)] [] q12.2) else (some ((0 : Int32), q12.2)))) else none)) else none) else (if (M 72 (y3 : Int32).toNatClampNeg) &&& 31 = 6 then (if mj_inB (y3 + 1) sl = true then ((mj_C sl d 84 [.ref 0, .int (M 72 (y3 + 1 : Int32).toNatClampNeg)] M).bind (fun q13 => if mj_inB (y3 + 1) sl = true then ((mj_C sl d 184 [.ref 45, .int (q13.2 72 (y3 + 1 : Int32).toNatClampNeg)] q13.2).bind (fun q14 => if q13.1 = q14.1 then (mj_E sl (d + 1) 234 18 [.ref 72, .ref 0, .ref 45, .int (y3 + 6)] [] q14.2) else (some ((0 : Int32), q14.2)))) else none)) else none) else (if (M 72 (y3 : Int32).toNatClampNeg) &&& 31 = 7 then (if mj_inB (y3 + 1) sl = true then ((mj_C sl d 85 [.ref 0, .int (M 72 (y3 + 1 : Int32).toNatClampNeg)] M).bind (fun q15 => if mj_inB (y3 + 1) sl = true then ((mj_C sl d 190 [.ref 45, .int (q15.2 72 (y3 + 1 : Int32).toNatClampNeg)] q15.2).bind (fun q16 => if q15.1 = q16.1 then (mj_E sl (d + 1) 234 18 [.ref 72, .ref 0, .ref 45, .int (y3 + 6)] [] q16.2) else (some ((0 : Int32), q16.2)))) else none)) else none) else (if (M 72 (y3 : Int32).toNatClampNeg) &&& 31 = 8 then (if mj_inB (y3 + 1) sl = true then (if mj_inB (y3 + 2) sl = true then ((mj_C sl d 86 [.ref 0, .int (M 72 (y3 + 1 : Int32).toNatClampNeg), .int (M 72 (y3 + 2 : Int32).toNatClampNeg)] M).bind (fun q17 => if mj_inB (y3 + 1) sl = true then (if mj_inB (y3 + 2) sl = true then ((mj_C sl d 192 [.ref 45, .int (q17.2 72 (y3 + 1 : Int32).toNatClampNeg), .int (q17.2 72 (y3 + 2 : Int32).toNatClampNeg)] q17.2).bind (fun q18 => if q17.1 = q18.1 then (mj_E sl (d + 1) 234 18 [.ref 72, .ref 0, .ref 45, .int (y3 + 6)] [] q18.2) else (some ((0 : Int32), q18.2)))) else none) else none)) else none) else none) else (if (M 72 (y3 : Int32).toNatClampNeg) &&& 31 = 9 then (if mj_inB (y3 + 1) sl = true then (if mj_inB (y3 + 2) sl = true then ((mj_C sl d 89 [.ref 0, .int (M 72 (y3 + 1 : Int32).toNatClampNeg), .int (M 72 (y3 + 2 : Int32).toNatClampNeg)] M).bind (fun q19 => if mj_inB (y3 + 1) sl = true then (if mj_inB (y3 + 2) sl = true then ((mj_C sl d 193 [.ref 45, .int (q19.2 72 (y3 + 1 : Int32).toNatClampNeg), .int (q19.2 72 (y3 + 2 : Int32).toNatClampNeg)] q19.2).bind (fun q20 => if q19.1 = q20.1 then (mj_E sl (d + 1) 234 18 [.ref 72, .ref 0, .ref 45, .int (y3 + 6)] [] q20.2) else (some ((0 : Int32), q20.2)))) else none) else none)) else none) else none) else (if (M 72 (y3 : Int32).toNatClampNeg) &&& 31 = 10 then (if mj_inB (y3 + 1) sl = true then (if mj_inB (y3 + 2) sl = true then ((mj_C sl d 91 [.ref 0, .int (M 72 (y3 + 1 : Int32).toNatClampNeg), .int (M 72 (y3 + 2 : Int32).toNatClampNeg)] M).bind (fun q21 => if mj_inB (y3 + 1) sl = true then (if mj_inB (y3 + 2) sl = true then ((mj_C sl d 194 [.ref 45, .int (q21.2 72 (y3 + 1 : Int32).toNatClampNeg), .int (q21.2 72 (y3 + 2 : Int32).toNatClampNeg)] q21.2).bind (fun q22 => if q21.1 = q22.1 then (mj_E sl (d + 1) 234 18 [.ref 72, .ref 0, .ref 45, .int (y3 + 6)] [] q22.2) else (some ((0 : Int32), q22.2)))) else none) else none)) else none) else none) else (if (M 72 (y3 : Int32).toNatClampNeg) &&& 31 = 11 then (if mj_inB (y3 + 1) sl = true then ((mj_C sl d 92 [.ref 0, .int (M 72 (y3 + 1 : Int32).toNatClampNeg)] M).bind (fun q23 => if mj_inB (y3 + 1) sl = true then ((mj_C sl d 195 [.ref 45, .int (q23.2 72 (y3 + 1 : Int32).toNatClampNeg)] q23.2).bind (fun q24 => if q23.1 = q24.1 then (mj_E sl (d + 1) 234 18 [.ref 72, .ref 0, .ref 45, .int (y3 + 6)] [] q24.2) else (some ((0 : Int32), q24.2)))) else none)) else none) else (if (M 72 (y3 : Int32).toNatClampNeg) &&& 31 = 12 then (if mj_inB (y3 + 1) sl = true then ((mj_C sl d 93 [.ref 0, .int (M 72 (y3 + 1 : Int32).toNatClampNeg)] M).bind (fun q25 => if mj_inB (y3 + 1) sl = true then ((mj_C sl d 196 [.ref 45, .int (q25.2 72 (y3 + 1 : Int32).toNatClampNeg)] q25.2).bind (fun q26 => if q25.1 = q26.1 then (mj_E sl (d + 1) 234 18 [.ref 72, .ref 0, .ref 45, .int (y3 + 6)] [] q26.2) else (some ((0 : Int32), q26.2)))) else none)) else none) else (if (M 72 (y3 : Int32).toNatClampNeg) &&& 31 = 13 then (if mj_inB (y3 + 1) sl = true then (if mj_inB (y3 + 2) sl = true then ((mj_C sl d 94 [.ref 0, .int (M 72 (y3 + 1 : Int32).toNatClampNeg), .int (M 72 (y3 + 2 : Int32).toNatClampNeg)] M).bind (fun q27 => if mj_inB (y3 + 1) sl = true then (if mj_inB (y3 + 2) sl = true then ((mj_C sl d 197 [.ref 45, .int (q27.2 72 (y3 + 1 : Int32).toNatClampNeg), .int (q27.2 72 (y3 + 2 : Int32).toNatClampNeg)] q27.2).bind (fun q28 => if q27.1 = q28.1 then (mj_E sl (d + 1) 234 18 [.ref 72, .ref 0, .ref 45, .int (y3 + 6)] [] q28.2) else (some ((0 : Int32), q28.2)))) else none) else none)) else none) else none) else (if (M 72 (y3 : Int32).toNatClampNeg) &&& 31 = 14 then (if mj_inB (y3 + 1) sl = true then (if mj_inB (y3 + 2) sl = true then ((mj_C sl d 95 [.ref 0, .int (M 72 (y3 + 1 : Int32).toNatClampNeg), .int (M 72 (y3 + 2 : Int32).toNatClampNeg)] M).bind (fun q29 => if mj_inB (y3 + 1) sl = true then (if mj_inB (y3 + 2) sl = true then ((mj_C sl d 198 [.ref 45, .int (q29.2 72 (y3 + 1 : Int32).toNatClampNeg), .int (q29.2 72 (y3 + 2 : Int32).toNatClampNeg)] q29.2).bind (fun q30 => if q29.1 = q30.1 then (mj_E sl (d + 1) 234 18 [.ref 72, .ref 0, .ref 45, .int (y3 + 6)] [] q30.2) else (some ((0 : Int32), q30.2)))) else none) else none)) else none) else none) else (if (M 72 (y3 : Int32).toNatClampNeg) &&& 31 = 15 then (if mj_inB (y3 + 1) sl = true then (if mj_inB (y3 + 2) sl = true then ((mj_C sl d 98 [.ref 0, .int (M 72 (y3 + 1 : Int32).toNatClampNeg), .int (M 72 (y3 + 2 : Int32).toNatClampNeg)] M).bind (fun q31 => if mj_inB (y3 + 1) sl = true then (if mj_inB (y3 + 2) sl = true then ((mj_C sl d 199 [.ref 45, .int (q31.2 72 (y3 + 1 : Int32).toNatClampNeg), .int (q31.2 72 (y3 + 2 : Int32).toNatClampNeg)] q31.2).bind (fun q32 => if q31.1 = q32.1 then (mj_E sl (d + 1) 234 18 [.ref 72, .ref 0, .ref 45, .int (y3 + 6)] [] q32.2) else (some ((0 : Int32), q32.2)))) else none) else none)) else none) else none) else (if (M 72 (y3 : Int32).toNatClampNeg) &&& 31 = 16 then (if mj_inB (y3 + 1) sl = true then (if mj_inB (y3 + 2) sl = true then (if mj_inB (y3 + 3) sl = true then ((mj_C sl d 101 [.ref 0, .int (M 72 (y3 + 1 : Int32).toNatClampNeg), .int (M 72 (y3 + 2 : Int32).toNatClampNeg), .int (M 72 (y3 + 3 : Int32).toNatClampNeg)] M).bind (fun q33 => if mj_inB (y3 + 1) sl = true then (if mj_inB (y3 + 2) sl = true then (if mj_inB (y3 + 3) sl = true then ((mj_C sl d 201 [.ref 45, .int (q33.2 72 (y3 + 1 : Int32).toNatClampNeg), .int (q33.2 72 (y3 + 2 : Int32).toNatClampNeg), .int (q33.2 72 (y3 + 3 : Int32).toNatClampNeg)] q33.2).bind (fun q34 => if q33.1 = q34.1 then (mj_E sl (d + 1) 234 18 [.ref 72, .ref 0, .ref 45, .int (y3 + 6)] [] q34.2) else (some ((0 : Int32), q34.2)))) else none) else none) else none)) else none) else none) else none) else (if (M 72 (y3 : Int32).toNatClampNeg) &&& 31 = 17 then (if mj_inB (y3 + 1) sl = true then (if mj_inB (y3 + 2) sl = true then ((mj_C sl d 104 [.ref 0, .int (M 72 (y3 + 1 : Int32).toNatClampNeg), .int (M 72 (y3 + 2 : Int32).toNatClampNeg)] M).bind (fun q35 => if mj_inB (y3 + 1) sl = true then (if mj_inB (y3 + 2) sl = true then ((mj_C sl d 203 [.ref 45, .int (q35.2 72 (y3 + 1 : Int32).toNatClampNeg), .int (q35.2 72 (y3 + 2 : Int32).toNatClampNeg)] q35.2).bind (fun q36 => if q35.1 = q36.1 then (mj_E sl (d + 1) 234 18 [.ref 72, .ref 0, .ref 45, .int (y3 + 6)] [] q36.2) else (some ((0 : Int32), q36.2)))) else none) else none)) else none) else none) else (if (M 72 (y3 : Int32).toNatClampNeg) &&& 31 = 18 then (if mj_inB (y3 + 1) sl = true then (if mj_inB (y3 + 2) sl = true then ((mj_C sl d 107 [.ref 0, .int (M 72 (y3 + 1 : Int32).toNatClampNeg), .int (M 72 (y3 + 2 : Int32).toNatClampNeg)] M).bind (fun q37 => if mj_inB (y3 + 1) sl = true then (if mj_inB (y3 + 2) sl = true then ((mj_C sl d 205 [.ref 45, .int (q37.2 72 (y3 + 1 : Int32).toNatClampNeg), .int (q37.2 72 (y3 + 2 : Int32).toNatClampNeg)] q37.2).bind (fun q38 => if q37.1 = q38.1 then (mj_E sl (d + 1) 234 18 [.ref 72, .ref 0, .ref 45, .int (y3 + 6)] [] q38.2) else (some ((0 : Int32), q38.2)))) else none) else none)) else none) else none) else (if (M 72 (y3 : Int32).toNatClampNeg) &&& 31 = 19 then (if mj_inB (y3 + 1) sl = true then (if mj_inB (y3 + 2) sl = true then ((mj_C sl d 108 [.ref 0, .int (M 72 (y3 + 1 : Int32).toNatClampNeg), .int (M 72 (y3 + 2 : Int32).toNatClampNeg)] M).bind (fun q39 => if mj_inB (y3 + 1) sl = true then (if mj_inB (y3 + 2) sl = true then ((mj_C sl d 207 [.ref 45, .int (q39.2 72 (y3 + 1 : Int32).toNatClampNeg), .int (q39.2 72 (y3 + 2 : Int32).toNatClampNeg)] q39.2).bind (fun q40 => if q39.1 = q40.1 then (mj_E sl (d + 1) 234 18 [.ref 72, .ref 0, .ref 45, .int (y3 + 6)] [] q40.2) else (some ((0 : Int32), q40.2)))) else none) else none)) else none) else none) else (if (M 72 (y3 : Int32).toNatClampNeg) &&& 31 = 20 then (if mj_inB (y3 + 1) sl = true then (if mj_inB (y3 + 2) sl = true then ((mj_C sl d 112 [.ref 0, .int (M 72 (y3 + 1 : Int32).toNatClampNeg), .int (M 72 (y3 + 2 : Int32).toNatClampNeg)] M).bind (fun q41 => if mj_inB (y3 + 1) sl = true then (if mj_inB (y3 + 2) sl = true then ((mj_C sl d 208 [.ref 45, .int (q41.2 72 (y3 + 1 : Int32).toNatClampNeg), .int (q41.2 72 (y3 + 2 : Int32).toNatClampNeg)] q41.2).bind (fun q42 => if q41.1 = q42.1 then (mj_E sl (d + 1) 234 18 [.ref 72, .ref 0, .ref 45, .int (y3 + 6)] [] q42.2) else (some ((0 : Int32), q42.2)))) else none) else none)) else none) else none) else (if (M 72 (y3 : Int32).toNatClampNeg) &&& 31 = 21 then ((mj_C sl d 113 [.ref 0] M).bind (fun q43 => (mj_C sl d 209 [.ref 45] q43.2).bind (fun q44 => if q43.1 = q44.1 then (mj_E sl (d + 1) 234 18 [.ref 72, .ref 0, .ref 45, .int (y3 + 6)] [] q44.2) else (some ((0 : Int32), q44.2))))) else (if (M 72 (y3 : Int32).toNatClampNeg) &&& 31 = 22 then (if mj_inB (y3 + 1) sl = true then (if mj_inB (y3 + 2) sl = true then ((mj_C sl d 114 [.ref 0, .int (M 72 (y3 + 1 : Int32).toNatClampNeg), .int (M 72 (y3 + 2 : Int32).toNatClampNeg)] M).bind (fun q45 => if mj_inB (y3 + 1) sl = true then (if mj_inB (y3 + 2) sl = true then ((mj_C sl d 210 [.ref 45, .int (q45.2 72 (y3 + 1 : Int32).toNatClampNeg), .int (q45.2 72 (y3 + 2 : Int32).toNatClampNeg)] q45.2).bind (fun q46 => if q45.1 = q46.1 then (mj_E sl (d + 1) 234 18 [.ref 72, .ref 0, .ref 45, .int (y3 + 6)] [] q46.2) else (some ((0 : Int32), q46.2)))) else none) else none)) else none) else none) else (if (M 72 (y3 : Int32).toNatClampNeg) &&& 31 = 23 then (if mj_inB (y3 + 1) sl = true then (if mj_inB (y3 + 2) sl = true then ((mj_C sl d 115 [.ref 0, .int (M 72 (y3 + 1 : Int32).toNatClampNeg), .int (M 72 (y3 + 2 : Int32).toNatClampNeg)] M).bind (fun q47 => if mj_inB (y3 + 1) sl = true then (if mj_inB (y3 + 2) sl = true then ((mj_C sl d 220 [.ref 45, .int (q47.2 72 (y3 + 1 : Int32).toNatClampNeg), .int (q47.2 72 (y3 + 2 : Int32).toNatClampNeg)] q47.2).bind (fun q48 => if q47.1 = q48.1 then (mj_E sl (d + 1) 234 18 [.ref 72, .ref 0, .ref 45, .int (y3 + 6)] [] q48.2) else (some ((0 : Int32), q48.2)))) else none) else none)) else none) else none) else (if (M 72 (y3 : Int32).toNatClampNeg) &&& 31 = 24 then (if mj_inB (y3 + 1) sl = true then (if mj_inB (y3 + 2) sl = true then ((mj_C sl d 116 [.ref 0, .int (M 72 (y3 + 1 : Int32).toNatClampNeg), .int (M 72 (y3 + 2 : Int32).toNatClampNeg)] M).bind (fun q49 => if mj_inB (y3 + 1) sl = true then (if mj_inB (y3 + 2) sl = true then ((mj_C sl d 221 [.ref 45, .int (q49.2 72 (y3 + 1 : Int32).toNatClampNeg), .int (q49.2 72 (y3 + 2 : Int32).toNatClampNeg)] q49.2).bind (fun q50 => if q49.1 = q50.1 then (mj_E sl (d + 1) 234 18 [.ref 72, .ref 0, .ref 45, .int (y3 + 6)] [] q50.2) else (some ((0 : Int32), q50.2)))) else none) else none)) else none) else none) else (if (M 72 (y3 : Int32).toNatClampNeg) &&& 31 = 25 then (if mj_inB (y3 + 1) sl = true then (if mj_inB (y3 + 2) sl = true then ((mj_C sl d 117 [.ref 0, .int (M 72 (y3 + 1 : Int32).toNatClampNeg), .int (M 72 (y3 + 2 : Int32).toNatClampNeg)] M).bind (fun q51 => if mj_inB (y3 + 1) sl = true then (if mj_inB (y3 + 2) sl = true then ((mj_C sl d 223 [.ref 45, .int (q51.2 72 (y3 + 1 : Int32).toNatClampNeg), .int (q51.2 72 (y3 + 2 : Int32).toNatClampNeg)] q51.2).bind (fun q52 => if q51.1 = q52.1 then (mj_E sl (d + 1) 234 18 [.ref 72, .ref 0, .ref 45, .int (y3 + 6)] [] q52.2) else (some ((0 : Int32), q52.2)))) else none) else none)) else none) else none) else (if (M 72 (y3 : Int32).toNatClampNeg) &&& 31 = 26 then (if mj_inB (y3 + 1) sl = true then ((mj_C sl d 118 [.ref 0, .int (M 72 (y3 + 1 : Int32).toNatClampNeg)] M).bind (fun q53 => if mj_inB (y3 + 1) sl = true then ((mj_C sl d 224 [.ref 45, .int (q53.2 72 (y3 + 1 : Int32).toNatClampNeg)] q53.2).bind (fun q54 => if q53.1 = q54.1 then (mj_E sl (d + 1) 234 18 [.ref 72, .ref 0, .ref 45, .int (y3 + 6)] [] q54.2) else (some ((0 : Int32), q54.2)))) else none)) else none) else (if (M 72 (y3 : Int32).toNatClampNeg) &&& 31 = 27 then ((mj_C sl d 119 [.ref 0] M).bind (fun q55 => (mj_C sl d 225 [.ref 45] q55.2).bind (fun q56 => if q55.1 = q56.1 then (mj_E sl (d + 1) 234 18 [.ref 72, .ref 0, .ref 45, .int (y3 + 6)] [] q56.2) else (some ((0 : Int32), q56.2))))) else (if (M 72 (y3 : Int32).toNatClampNeg) &&& 31 = 28 then ((mj_C sl d 120 [.ref 0] M).bind (fun q57 => (mj_C sl d 226 [.ref 45] q57.2).bind (fun q58 => if q57.1 = q58.1 then (mj_E sl (d + 1) 234 18 [.ref 72, .ref 0, .ref 45, .int (y3 + 6)] [] q58.2) else (some ((0 : Int32), q58.2))))) else (if (M 72 (y3 : Int32).toNatClampNeg) &&& 31 = 29 then (if mj_inB (y3 + 1) sl = true then ((mj_C sl d 121 [.ref 0, .int (M 72 (y3 + 1 : Int32).toNatClampNeg)] M).bind (fun q59 => if mj_inB (y3 + 1) sl = true then ((mj_C sl d 227 [.ref 45, .int (q59.2 72 (y3 + 1 : Int32).toNatClampNeg)] q59.2).bind (fun q60 => if q59.1 = q60.1 then (mj_E sl (d + 1) 234 18 [.ref 72, .ref 0, .ref 45, .int (y3 + 6)] [] q60.2) else (some ((0 : Int32), q60.2)))) else none)) else none) else (if (M 72 (y3 : Int32).toNatClampNeg) &&& 31 = 30 then (if mj_inB (y3 + 1) sl = true then ((mj_C sl d 122 [.ref 0, .int (M 72 (y3 + 1 : Int32).toNatClampNeg)] M).bind (fun q61 => if mj_inB (y3 + 1) sl = true then ((mj_C sl d 228 [.ref 45, .int (q61.2 72 (y3 + 1 : Int32).toNatClampNeg)] q61.2).bind (fun q62 => if q61.1 = q62.1 then (mj_E sl (d + 1) 234 18 [.ref 72, .ref 0, .ref 45, .int (y3 + 6)] [] q62.2) else (some ((0 : Int32), q62.2)))) else none)) else none) else (mj_E sl (d + 1) 234 18 [.ref 72, .ref 0, .ref 45, .int (y3 + 6)] [] M)))))))))))))))))))))))))))))))) else none) else (some ((1 : Int32), M)) := by
  refine (sx_iload_n dx_234_18 rfl).trans ?_
  refine (sx_aload_n dx_234_19 rfl).trans ?_
  refine (sx_slen dx_234_20).trans ?_
  refine (sx_bipush (v := 6) dx_234_21 rfl).trans ?_
  refine (sx_isub dx_234_23).trans ?_
  refine (sx_icmp_gt (tgt := 1111) dx_234_24 (by decide)).trans ?_
  refine mj_ite ?_ ?_
  · refine (sx_aload_n dx_234_27 rfl).trans ?_
    refine (sx_iload_n dx_234_28 rfl).trans ?_
    refine (sx_sld dx_234_29).trans ?_
    refine mj_ite ?_ rfl
    refine (sx_bipush (v := 31) dx_234_30 rfl).trans ?_
    refine (sx_iand dx_234_32).trans ?_
    refine mj_sel (fun hx1_0 => ?_) (fun hx1_0 => ?_)
    · refine (sx_tsw_in (off := 139) (tgt := 172) dx_234_33 hx1_0 (by decide) (by decide) (by decide)).trans ?_
      refine (sx_aload_n dx_234_172 rfl).trans ?_
      refine (sx_aload_n dx_234_173 rfl).trans ?_
      refine (sx_iload_n dx_234_174 rfl).trans ?_
      refine (sx_iconst (v := 1) dx_234_175 rfl).trans ?_
      refine (sx_iadd dx_234_176).trans ?_
      refine (sx_sld dx_234_177).trans ?_
      refine mj_ite ?_ rfl
      refine (sx_aload_n dx_234_178 rfl).trans ?_
      refine (sx_iload_n dx_234_179 rfl).trans ?_
      refine (sx_iconst (v := 2) dx_234_180 rfl).trans ?_
      refine (sx_iadd dx_234_181).trans ?_
      refine (sx_sld dx_234_182).trans ?_
      refine mj_ite ?_ rfl
      refine (sx_v2i dx_234_183 ow_234 cx_10_13 oc_0 (Nat.le_of_ble_eq_true rfl)).trans ?_
      refine mj_bnd (fun q1 => ?_)
      refine (sx_aload_n dx_234_186 rfl).trans ?_
      refine (sx_aload_n dx_234_187 rfl).trans ?_
      refine (sx_iload_n dx_234_188 rfl).trans ?_
      refine (sx_iconst (v := 1) dx_234_189 rfl).trans ?_
      refine (sx_iadd dx_234_190).trans ?_
      refine (sx_sld dx_234_191).trans ?_
      refine mj_ite ?_ rfl
      refine (sx_aload_n dx_234_192 rfl).trans ?_
      refine (sx_iload_n dx_234_193 rfl).trans ?_
      refine (sx_iconst (v := 2) dx_234_194 rfl).trans ?_
      refine (sx_iadd dx_234_195).trans ?_
      refine (sx_sld dx_234_196).trans ?_
      refine mj_ite ?_ rfl
      refine (sx_v2i dx_234_197 ow_234 cx_10_17 oc_45 (Nat.le_of_ble_eq_true rfl)).trans ?_
      refine mj_bnd (fun q2 => ?_)
      refine (sx_icmp_eq (tgt := 1105) dx_234_200 (by decide)).trans ?_
      refine mj_ite ?_ ?_
      · refine (sx_iinc (v := 6) dx_234_1105 rfl rfl rfl).trans ?_
        refine (sx_goto (tgt := 18) dx_234_1108 (by decide)).trans ?_
        rfl
      · refine (sx_iconst (v := 0) dx_234_203 rfl).trans ?_
        exact sx_retz dx_234_204 rt_234 (by decide)
    refine mj_sel (fun hx1_1 => ?_) (fun hx1_1 => ?_)
    · refine (sx_tsw_in (off := 172) (tgt := 205) dx_234_33 hx1_1 (by decide) (by decide) (by decide)).trans ?_
      refine (sx_aload_n dx_234_205 rfl).trans ?_
      refine (sx_aload_n dx_234_206 rfl).trans ?_
      refine (sx_iload_n dx_234_207 rfl).trans ?_
      refine (sx_iconst (v := 1) dx_234_208 rfl).trans ?_
      refine (sx_iadd dx_234_209).trans ?_
      refine (sx_sld dx_234_210).trans ?_
      refine mj_ite ?_ rfl
      refine (sx_aload_n dx_234_211 rfl).trans ?_
      refine (sx_iload_n dx_234_212 rfl).trans ?_
      refine (sx_iconst (v := 2) dx_234_213 rfl).trans ?_
      refine (sx_iadd dx_234_214).trans ?_
      refine (sx_sld dx_234_215).trans ?_
      refine mj_ite ?_ rfl
      refine (sx_aload_n dx_234_216 rfl).trans ?_
      refine (sx_iload_n dx_234_217 rfl).trans ?_
      refine (sx_iconst (v := 3) dx_234_218 rfl).trans ?_
      refine (sx_iadd dx_234_219).trans ?_
      refine (sx_sld dx_234_220).trans ?_
      refine mj_ite ?_ rfl
      refine (sx_v3i dx_234_221 ow_234 cx_10_18 oc_0 (Nat.le_of_ble_eq_true rfl)).trans ?_
      refine mj_bnd (fun q3 => ?_)
      refine (sx_aload_n dx_234_224 rfl).trans ?_
      refine (sx_aload_n dx_234_225 rfl).trans ?_
      refine (sx_iload_n dx_234_226 rfl).trans ?_
      refine (sx_iconst (v := 1) dx_234_227 rfl).trans ?_
      refine (sx_iadd dx_234_228).trans ?_
      refine (sx_sld dx_234_229).trans ?_
      refine mj_ite ?_ rfl
      refine (sx_aload_n dx_234_230 rfl).trans ?_
      refine (sx_iload_n dx_234_231 rfl).trans ?_
      refine (sx_iconst (v := 2) dx_234_232 rfl).trans ?_
      refine (sx_iadd dx_234_233).trans ?_
      refine (sx_sld dx_234_234).trans ?_
      refine mj_ite ?_ rfl
      refine (sx_aload_n dx_234_235 rfl).trans ?_
      refine (sx_iload_n dx_234_236 rfl).trans ?_
      refine (sx_iconst (v := 3) dx_234_237 rfl).trans ?_
      refine (sx_iadd dx_234_238).trans ?_
      refine (sx_sld dx_234_239).trans ?_
      refine mj_ite ?_ rfl
      refine (sx_v3i dx_234_240 ow_234 cx_10_22 oc_45 (Nat.le_of_ble_eq_true rfl)).trans ?_
      refine mj_bnd (fun q4 => ?_)
      refine (sx_icmp_eq (tgt := 1105) dx_234_243 (by decide)).trans ?_
      refine mj_ite ?_ ?_
      · refine (sx_iinc (v := 6) dx_234_1105 rfl rfl rfl).trans ?_
        refine (sx_goto (tgt := 18) dx_234_1108 (by decide)).trans ?_
        rfl
      · refine (sx_iconst (v := 0) dx_234_246 rfl).trans ?_
        exact sx_retz dx_234_247 rt_234 (by decide)
    refine mj_sel (fun hx1_2 => ?_) (fun hx1_2 => ?_)
    · refine (sx_tsw_in (off := 215) (tgt := 248) dx_234_33 hx1_2 (by decide) (by decide) (by decide)).trans ?_
      refine (sx_aload_n dx_234_248 rfl).trans ?_
      refine (sx_aload_n dx_234_249 rfl).trans ?_
      refine (sx_iload_n dx_234_250 rfl).trans ?_
      refine (sx_iconst (v := 1) dx_234_251 rfl).trans ?_
      refine (sx_iadd dx_234_252).trans ?_
      refine (sx_sld dx_234_253).trans ?_
      refine mj_ite ?_ rfl
      refine (sx_aload_n dx_234_254 rfl).trans ?_
      refine (sx_iload_n dx_234_255 rfl).trans ?_
      refine (sx_iconst (v := 2) dx_234_256 rfl).trans ?_
      refine (sx_iadd dx_234_257).trans ?_
      refine (sx_sld dx_234_258).trans ?_
      refine mj_ite ?_ rfl
      refine (sx_aload_n dx_234_259 rfl).trans ?_
      refine (sx_iload_n dx_234_260 rfl).trans ?_
      refine (sx_iconst (v := 3) dx_234_261 rfl).trans ?_
      refine (sx_iadd dx_234_262).trans ?_
      refine (sx_sld dx_234_263).trans ?_
      refine mj_ite ?_ rfl
      refine (sx_v3i dx_234_264 ow_234 cx_10_23 oc_0 (Nat.le_of_ble_eq_true rfl)).trans ?_
      refine mj_bnd (fun q5 => ?_)
      refine (sx_aload_n dx_234_267 rfl).trans ?_
      refine (sx_aload_n dx_234_268 rfl).trans ?_
      refine (sx_iload_n dx_234_269 rfl).trans ?_
      refine (sx_iconst (v := 1) dx_234_270 rfl).trans ?_
      refine (sx_iadd dx_234_271).trans ?_
      refine (sx_sld dx_234_272).trans ?_
      refine mj_ite ?_ rfl
      refine (sx_aload_n dx_234_273 rfl).trans ?_
      refine (sx_iload_n dx_234_274 rfl).trans ?_
      refine (sx_iconst (v := 2) dx_234_275 rfl).trans ?_
      refine (sx_iadd dx_234_276).trans ?_
      refine (sx_sld dx_234_277).trans ?_
      refine mj_ite ?_ rfl
      refine (sx_aload_n dx_234_278 rfl).trans ?_
      refine (sx_iload_n dx_234_279 rfl).trans ?_
      refine (sx_iconst (v := 3) dx_234_280 rfl).trans ?_
      refine (sx_iadd dx_234_281).trans ?_
      refine (sx_sld dx_234_282).trans ?_
      refine mj_ite ?_ rfl
      refine (sx_v3i dx_234_283 ow_234 cx_10_26 oc_45 (Nat.le_of_ble_eq_true rfl)).trans ?_
      refine mj_bnd (fun q6 => ?_)
      refine (sx_icmp_eq (tgt := 1105) dx_234_286 (by decide)).trans ?_
      refine mj_ite ?_ ?_
      · refine (sx_iinc (v := 6) dx_234_1105 rfl rfl rfl).trans ?_
        refine (sx_goto (tgt := 18) dx_234_1108 (by decide)).trans ?_
        rfl
      · refine (sx_iconst (v := 0) dx_234_289 rfl).trans ?_
        exact sx_retz dx_234_290 rt_234 (by decide)
    refine mj_sel (fun hx1_3 => ?_) (fun hx1_3 => ?_)
    · refine (sx_tsw_in (off := 258) (tgt := 291) dx_234_33 hx1_3 (by decide) (by decide) (by decide)).trans ?_
      refine (sx_aload_n dx_234_291 rfl).trans ?_
      refine (sx_aload_n dx_234_292 rfl).trans ?_
      refine (sx_iload_n dx_234_293 rfl).trans ?_
      refine (sx_iconst (v := 1) dx_234_294 rfl).trans ?_
      refine (sx_iadd dx_234_295).trans ?_
      refine (sx_sld dx_234_296).trans ?_
      refine mj_ite ?_ rfl
      refine (sx_aload_n dx_234_297 rfl).trans ?_
      refine (sx_iload_n dx_234_298 rfl).trans ?_
      refine (sx_iconst (v := 2) dx_234_299 rfl).trans ?_
      refine (sx_iadd dx_234_300).trans ?_
      refine (sx_sld dx_234_301).trans ?_
      refine mj_ite ?_ rfl
      refine (sx_aload_n dx_234_302 rfl).trans ?_
      refine (sx_iload_n dx_234_303 rfl).trans ?_
      refine (sx_iconst (v := 3) dx_234_304 rfl).trans ?_
      refine (sx_iadd dx_234_305).trans ?_
      refine (sx_sld dx_234_306).trans ?_
      refine mj_ite ?_ rfl
      refine (sx_aload_n dx_234_307 rfl).trans ?_
      refine (sx_iload_n dx_234_308 rfl).trans ?_
      refine (sx_iconst (v := 4) dx_234_309 rfl).trans ?_
      refine (sx_iadd dx_234_310).trans ?_
      refine (sx_sld dx_234_311).trans ?_
      refine mj_ite ?_ rfl
      refine (sx_aload_n dx_234_312 rfl).trans ?_
      refine (sx_iload_n dx_234_313 rfl).trans ?_
      refine (sx_iconst (v := 5) dx_234_314 rfl).trans ?_
      refine (sx_iadd dx_234_315).trans ?_
      refine (sx_sld dx_234_316).trans ?_
      refine mj_ite ?_ rfl
      refine (sx_v5i dx_234_317 ow_234 cx_10_27 oc_0 (Nat.le_of_ble_eq_true rfl)).trans ?_
      refine mj_bnd (fun q7 => ?_)
      refine (sx_aload_n dx_234_320 rfl).trans ?_
      refine (sx_aload_n dx_234_321 rfl).trans ?_
      refine (sx_iload_n dx_234_322 rfl).trans ?_
      refine (sx_iconst (v := 1) dx_234_323 rfl).trans ?_
      refine (sx_iadd dx_234_324).trans ?_
      refine (sx_sld dx_234_325).trans ?_
      refine mj_ite ?_ rfl
      refine (sx_aload_n dx_234_326 rfl).trans ?_
      refine (sx_iload_n dx_234_327 rfl).trans ?_
      refine (sx_iconst (v := 2) dx_234_328 rfl).trans ?_
      refine (sx_iadd dx_234_329).trans ?_
      refine (sx_sld dx_234_330).trans ?_
      refine mj_ite ?_ rfl
      refine (sx_aload_n dx_234_331 rfl).trans ?_
      refine (sx_iload_n dx_234_332 rfl).trans ?_
      refine (sx_iconst (v := 3) dx_234_333 rfl).trans ?_
      refine (sx_iadd dx_234_334).trans ?_
      refine (sx_sld dx_234_335).trans ?_
      refine mj_ite ?_ rfl
      refine (sx_aload_n dx_234_336 rfl).trans ?_
      refine (sx_iload_n dx_234_337 rfl).trans ?_
      refine (sx_iconst (v := 4) dx_234_338 rfl).trans ?_
      refine (sx_iadd dx_234_339).trans ?_
      refine (sx_sld dx_234_340).trans ?_
      refine mj_ite ?_ rfl
      refine (sx_aload_n dx_234_341 rfl).trans ?_
      refine (sx_iload_n dx_234_342 rfl).trans ?_
      refine (sx_iconst (v := 5) dx_234_343 rfl).trans ?_
      refine (sx_iadd dx_234_344).trans ?_
      refine (sx_sld dx_234_345).trans ?_
      refine mj_ite ?_ rfl
      refine (sx_v5i dx_234_346 ow_234 cx_10_31 oc_45 (Nat.le_of_ble_eq_true rfl)).trans ?_
      refine mj_bnd (fun q8 => ?_)
      refine (sx_icmp_eq (tgt := 1105) dx_234_349 (by decide)).trans ?_
      refine mj_ite ?_ ?_
      · refine (sx_iinc (v := 6) dx_234_1105 rfl rfl rfl).trans ?_
        refine (sx_goto (tgt := 18) dx_234_1108 (by decide)).trans ?_
        rfl
      · refine (sx_iconst (v := 0) dx_234_352 rfl).trans ?_
        exact sx_retz dx_234_353 rt_234 (by decide)
    refine mj_sel (fun hx1_4 => ?_) (fun hx1_4 => ?_)
    · refine (sx_tsw_in (off := 321) (tgt := 354) dx_234_33 hx1_4 (by decide) (by decide) (by decide)).trans ?_
      refine (sx_aload_n dx_234_354 rfl).trans ?_
      refine (sx_aload_n dx_234_355 rfl).trans ?_
      refine (sx_iload_n dx_234_356 rfl).trans ?_
      refine (sx_iconst (v := 1) dx_234_357 rfl).trans ?_
      refine (sx_iadd dx_234_358).trans ?_
      refine (sx_sld dx_234_359).trans ?_
      refine mj_ite ?_ rfl
      refine (sx_v1i dx_234_360 ow_234 cx_10_32 oc_0 (Nat.le_of_ble_eq_true rfl)).trans ?_
      refine mj_bnd (fun q9 => ?_)
      refine (sx_aload_n dx_234_363 rfl).trans ?_
      refine (sx_aload_n dx_234_364 rfl).trans ?_
      refine (sx_iload_n dx_234_365 rfl).trans ?_
      refine (sx_iconst (v := 1) dx_234_366 rfl).trans ?_
      refine (sx_iadd dx_234_367).trans ?_
      refine (sx_sld dx_234_368).trans ?_
      refine mj_ite ?_ rfl
      refine (sx_v1i dx_234_369 ow_234 cx_10_36 oc_45 (Nat.le_of_ble_eq_true rfl)).trans ?_
      refine mj_bnd (fun q10 => ?_)
      refine (sx_icmp_eq (tgt := 1105) dx_234_372 (by decide)).trans ?_
      refine mj_ite ?_ ?_
      · refine (sx_iinc (v := 6) dx_234_1105 rfl rfl rfl).trans ?_
        refine (sx_goto (tgt := 18) dx_234_1108 (by decide)).trans ?_
        rfl
      · refine (sx_iconst (v := 0) dx_234_375 rfl).trans ?_
        exact sx_retz dx_234_376 rt_234 (by decide)
    refine mj_sel (fun hx1_5 => ?_) (fun hx1_5 => ?_)
    · refine (sx_tsw_in (off := 344) (tgt := 377) dx_234_33 hx1_5 (by decide) (by decide) (by decide)).trans ?_
      refine (sx_aload_n dx_234_377 rfl).trans ?_
      refine (sx_aload_n dx_234_378 rfl).trans ?_
      refine (sx_iload_n dx_234_379 rfl).trans ?_
      refine (sx_iconst (v := 1) dx_234_380 rfl).trans ?_
      refine (sx_iadd dx_234_381).trans ?_
      refine (sx_sld dx_234_382).trans ?_
      refine mj_ite ?_ rfl
      refine (sx_v1i dx_234_383 ow_234 cx_10_37 oc_0 (Nat.le_of_ble_eq_true rfl)).trans ?_
      refine mj_bnd (fun q11 => ?_)
      refine (sx_aload_n dx_234_386 rfl).trans ?_
      refine (sx_aload_n dx_234_387 rfl).trans ?_
      refine (sx_iload_n dx_234_388 rfl).trans ?_
      refine (sx_iconst (v := 1) dx_234_389 rfl).trans ?_
      refine (sx_iadd dx_234_390).trans ?_
      refine (sx_sld dx_234_391).trans ?_
      refine mj_ite ?_ rfl
      refine (sx_v1i dx_234_392 ow_234 cx_10_40 oc_45 (Nat.le_of_ble_eq_true rfl)).trans ?_
      refine mj_bnd (fun q12 => ?_)
      refine (sx_icmp_eq (tgt := 1105) dx_234_395 (by decide)).trans ?_
      refine mj_ite ?_ ?_
      · refine (sx_iinc (v := 6) dx_234_1105 rfl rfl rfl).trans ?_
        refine (sx_goto (tgt := 18) dx_234_1108 (by decide)).trans ?_
        rfl
      · refine (sx_iconst (v := 0) dx_234_398 rfl).trans ?_
        exact sx_retz dx_234_399 rt_234 (by decide)
    refine mj_sel (fun hx1_6 => ?_) (fun hx1_6 => ?_)
    · refine (sx_tsw_in (off := 367) (tgt := 400) dx_234_33 hx1_6 (by decide) (by decide) (by decide)).trans ?_
      refine (sx_aload_n dx_234_400 rfl).trans ?_
      refine (sx_aload_n dx_234_401 rfl).trans ?_
      refine (sx_iload_n dx_234_402 rfl).trans ?_
      refine (sx_iconst (v := 1) dx_234_403 rfl).trans ?_
      refine (sx_iadd dx_234_404).trans ?_
      refine (sx_sld dx_234_405).trans ?_
      refine mj_ite ?_ rfl
      refine (sx_v1i dx_234_406 ow_234 cx_10_41 oc_0 (Nat.le_of_ble_eq_true rfl)).trans ?_
      refine mj_bnd (fun q13 => ?_)
      refine (sx_aload_n dx_234_409 rfl).trans ?_
      refine (sx_aload_n dx_234_410 rfl).trans ?_
      refine (sx_iload_n dx_234_411 rfl).trans ?_
      refine (sx_iconst (v := 1) dx_234_412 rfl).trans ?_
      refine (sx_iadd dx_234_413).trans ?_
      refine (sx_sld dx_234_414).trans ?_
      refine mj_ite ?_ rfl
      refine (sx_v1i dx_234_415 ow_234 cx_10_44 oc_45 (Nat.le_of_ble_eq_true rfl)).trans ?_
      refine mj_bnd (fun q14 => ?_)
      refine (sx_icmp_eq (tgt := 1105) dx_234_418 (by decide)).trans ?_
      refine mj_ite ?_ ?_
      · refine (sx_iinc (v := 6) dx_234_1105 rfl rfl rfl).trans ?_
        refine (sx_goto (tgt := 18) dx_234_1108 (by decide)).trans ?_
        rfl
      · refine (sx_iconst (v := 0) dx_234_421 rfl).trans ?_
        exact sx_retz dx_234_422 rt_234 (by decide)
    refine mj_sel (fun hx1_7 => ?_) (fun hx1_7 => ?_)
    · refine (sx_tsw_in (off := 390) (tgt := 423) dx_234_33 hx1_7 (by decide) (by decide) (by decide)).trans ?_
      refine (sx_aload_n dx_234_423 rfl).trans ?_
      refine (sx_aload_n dx_234_424 rfl).trans ?_
      refine (sx_iload_n dx_234_425 rfl).trans ?_
      refine (sx_iconst (v := 1) dx_234_426 rfl).trans ?_
      refine (sx_iadd dx_234_427).trans ?_
      refine (sx_sld dx_234_428).trans ?_
      refine mj_ite ?_ rfl
      refine (sx_v1i dx_234_429 ow_234 cx_10_45 oc_0 (Nat.le_of_ble_eq_true rfl)).trans ?_
      refine mj_bnd (fun q15 => ?_)
      refine (sx_aload_n dx_234_432 rfl).trans ?_
      refine (sx_aload_n dx_234_433 rfl).trans ?_
      refine (sx_iload_n dx_234_434 rfl).trans ?_
      refine (sx_iconst (v := 1) dx_234_435 rfl).trans ?_
      refine (sx_iadd dx_234_436).trans ?_
      refine (sx_sld dx_234_437).trans ?_
      refine mj_ite ?_ rfl
      refine (sx_v1i dx_234_438 ow_234 cx_10_48 oc_45 (Nat.le_of_ble_eq_true rfl)).trans ?_
      refine mj_bnd (fun q16 => ?_)
      refine (sx_icmp_eq (tgt := 1105) dx_234_441 (by decide)).trans ?_
      refine mj_ite ?_ ?_
      · refine (sx_iinc (v := 6) dx_234_1105 rfl rfl rfl).trans ?_
        refine (sx_goto (tgt := 18) dx_234_1108 (by decide)).trans ?_
        rfl
      · refine (sx_iconst (v := 0) dx_234_444 rfl).trans ?_
        exact sx_retz dx_234_445 rt_234 (by decide)
    refine mj_sel (fun hx1_8 => ?_) (fun hx1_8 => ?_)
    · refine (sx_tsw_in (off := 413) (tgt := 446) dx_234_33 hx1_8 (by decide) (by decide) (by decide)).trans ?_
      refine (sx_aload_n dx_234_446 rfl).trans ?_
      refine (sx_aload_n dx_234_447 rfl).trans ?_
      refine (sx_iload_n dx_234_448 rfl).trans ?_
      refine (sx_iconst (v := 1) dx_234_449 rfl).trans ?_
      refine (sx_iadd dx_234_450).trans ?_
      refine (sx_sld dx_234_451).trans ?_
      refine mj_ite ?_ rfl
      refine (sx_aload_n dx_234_452 rfl).trans ?_
      refine (sx_iload_n dx_234_453 rfl).trans ?_
      refine (sx_iconst (v := 2) dx_234_454 rfl).trans ?_
      refine (sx_iadd dx_234_455).trans ?_
      refine (sx_sld dx_234_456).trans ?_
      refine mj_ite ?_ rfl
      refine (sx_v2i dx_234_457 ow_234 cx_10_49 oc_0 (Nat.le_of_ble_eq_true rfl)).trans ?_
      refine mj_bnd (fun q17 => ?_)
      refine (sx_aload_n dx_234_460 rfl).trans ?_
      refine (sx_aload_n dx_234_461 rfl).trans ?_
      refine (sx_iload_n dx_234_462 rfl).trans ?_
      refine (sx_iconst (v := 1) dx_234_463 rfl).trans ?_
      refine (sx_iadd dx_234_464).trans ?_
      refine (sx_sld dx_234_465).trans ?_
      refine mj_ite ?_ rfl
      refine (sx_aload_n dx_234_466 rfl).trans ?_
      refine (sx_iload_n dx_234_467 rfl).trans ?_
      refine (sx_iconst (v := 2) dx_234_468 rfl).trans ?_
      refine (sx_iadd dx_234_469).trans ?_
      refine (sx_sld dx_234_470).trans ?_
      refine mj_ite ?_ rfl
      refine (sx_v2i dx_234_471 ow_234 cx_10_53 oc_45 (Nat.le_of_ble_eq_true rfl)).trans ?_
      refine mj_bnd (fun q18 => ?_)
      refine (sx_icmp_eq (tgt := 1105) dx_234_474 (by decide)).trans ?_
      refine mj_ite ?_ ?_
      · refine (sx_iinc (v := 6) dx_234_1105 rfl rfl rfl).trans ?_
        refine (sx_goto (tgt := 18) dx_234_1108 (by decide)).trans ?_
        rfl
      · refine (sx_iconst (v := 0) dx_234_477 rfl).trans ?_
        exact sx_retz dx_234_478 rt_234 (by decide)
    refine mj_sel (fun hx1_9 => ?_) (fun hx1_9 => ?_)
    · refine (sx_tsw_in (off := 446) (tgt := 479) dx_234_33 hx1_9 (by decide) (by decide) (by decide)).trans ?_
      refine (sx_aload_n dx_234_479 rfl).trans ?_
      refine (sx_aload_n dx_234_480 rfl).trans ?_
      refine (sx_iload_n dx_234_481 rfl).trans ?_
      refine (sx_iconst (v := 1) dx_234_482 rfl).trans ?_
      refine (sx_iadd dx_234_483).trans ?_
      refine (sx_sld dx_234_484).trans ?_
      refine mj_ite ?_ rfl
      refine (sx_aload_n dx_234_485 rfl).trans ?_
      refine (sx_iload_n dx_234_486 rfl).trans ?_
      refine (sx_iconst (v := 2) dx_234_487 rfl).trans ?_
      refine (sx_iadd dx_234_488).trans ?_
      refine (sx_sld dx_234_489).trans ?_
      refine mj_ite ?_ rfl
      refine (sx_v2i dx_234_490 ow_234 cx_10_54 oc_0 (Nat.le_of_ble_eq_true rfl)).trans ?_
      refine mj_bnd (fun q19 => ?_)
      refine (sx_aload_n dx_234_493 rfl).trans ?_
      refine (sx_aload_n dx_234_494 rfl).trans ?_
      refine (sx_iload_n dx_234_495 rfl).trans ?_
      refine (sx_iconst (v := 1) dx_234_496 rfl).trans ?_
      refine (sx_iadd dx_234_497).trans ?_
      refine (sx_sld dx_234_498).trans ?_
      refine mj_ite ?_ rfl
      refine (sx_aload_n dx_234_499 rfl).trans ?_
      refine (sx_iload_n dx_234_500 rfl).trans ?_
      refine (sx_iconst (v := 2) dx_234_501 rfl).trans ?_
      refine (sx_iadd dx_234_502).trans ?_
      refine (sx_sld dx_234_503).trans ?_
      refine mj_ite ?_ rfl
      refine (sx_v2i dx_234_504 ow_234 cx_10_57 oc_45 (Nat.le_of_ble_eq_true rfl)).trans ?_
      refine mj_bnd (fun q20 => ?_)
      refine (sx_icmp_eq (tgt := 1105) dx_234_507 (by decide)).trans ?_
      refine mj_ite ?_ ?_
      · refine (sx_iinc (v := 6) dx_234_1105 rfl rfl rfl).trans ?_
        refine (sx_goto (tgt := 18) dx_234_1108 (by decide)).trans ?_
        rfl
      · refine (sx_iconst (v := 0) dx_234_510 rfl).trans ?_
        exact sx_retz dx_234_511 rt_234 (by decide)
    refine mj_sel (fun hx1_10 => ?_) (fun hx1_10 => ?_)
    · refine (sx_tsw_in (off := 479) (tgt := 512) dx_234_33 hx1_10 (by decide) (by decide) (by decide)).trans ?_
      refine (sx_aload_n dx_234_512 rfl).trans ?_
      refine (sx_aload_n dx_234_513 rfl).trans ?_
      refine (sx_iload_n dx_234_514 rfl).trans ?_
      refine (sx_iconst (v := 1) dx_234_515 rfl).trans ?_
      refine (sx_iadd dx_234_516).trans ?_
      refine (sx_sld dx_234_517).trans ?_
      refine mj_ite ?_ rfl
      refine (sx_aload_n dx_234_518 rfl).trans ?_
      refine (sx_iload_n dx_234_519 rfl).trans ?_
      refine (sx_iconst (v := 2) dx_234_520 rfl).trans ?_
      refine (sx_iadd dx_234_521).trans ?_
      refine (sx_sld dx_234_522).trans ?_
      refine mj_ite ?_ rfl
      refine (sx_v2i dx_234_523 ow_234 cx_10_58 oc_0 (Nat.le_of_ble_eq_true rfl)).trans ?_
      refine mj_bnd (fun q21 => ?_)
      refine (sx_aload_n dx_234_526 rfl).trans ?_
      refine (sx_aload_n dx_234_527 rfl).trans ?_
      refine (sx_iload_n dx_234_528 rfl).trans ?_
      refine (sx_iconst (v := 1) dx_234_529 rfl).trans ?_
      refine (sx_iadd dx_234_530).trans ?_
      refine (sx_sld dx_234_531).trans ?_
      refine mj_ite ?_ rfl
      refine (sx_aload_n dx_234_532 rfl).trans ?_
      refine (sx_iload_n dx_234_533 rfl).trans ?_
      refine (sx_iconst (v := 2) dx_234_534 rfl).trans ?_
      refine (sx_iadd dx_234_535).trans ?_
      refine (sx_sld dx_234_536).trans ?_
      refine mj_ite ?_ rfl
      refine (sx_v2i dx_234_537 ow_234 cx_10_61 oc_45 (Nat.le_of_ble_eq_true rfl)).trans ?_
      refine mj_bnd (fun q22 => ?_)
      refine (sx_icmp_eq (tgt := 1105) dx_234_540 (by decide)).trans ?_
      refine mj_ite ?_ ?_
      · refine (sx_iinc (v := 6) dx_234_1105 rfl rfl rfl).trans ?_
        refine (sx_goto (tgt := 18) dx_234_1108 (by decide)).trans ?_
        rfl
      · refine (sx_iconst (v := 0) dx_234_543 rfl).trans ?_
        exact sx_retz dx_234_544 rt_234 (by decide)
    refine mj_sel (fun hx1_11 => ?_) (fun hx1_11 => ?_)
    · refine (sx_tsw_in (off := 512) (tgt := 545) dx_234_33 hx1_11 (by decide) (by decide) (by decide)).trans ?_
      refine (sx_aload_n dx_234_545 rfl).trans ?_
      refine (sx_aload_n dx_234_546 rfl).trans ?_
      refine (sx_iload_n dx_234_547 rfl).trans ?_
      refine (sx_iconst (v := 1) dx_234_548 rfl).trans ?_
      refine (sx_iadd dx_234_549).trans ?_
      refine (sx_sld dx_234_550).trans ?_
      refine mj_ite ?_ rfl
      refine (sx_v1i dx_234_551 ow_234 cx_10_62 oc_0 (Nat.le_of_ble_eq_true rfl)).trans ?_
      refine mj_bnd (fun q23 => ?_)
      refine (sx_aload_n dx_234_554 rfl).trans ?_
      refine (sx_aload_n dx_234_555 rfl).trans ?_
      refine (sx_iload_n dx_234_556 rfl).trans ?_
      refine (sx_iconst (v := 1) dx_234_557 rfl).trans ?_
      refine (sx_iadd dx_234_558).trans ?_
      refine (sx_sld dx_234_559).trans ?_
      refine mj_ite ?_ rfl
      refine (sx_v1i dx_234_560 ow_234 cx_10_65 oc_45 (Nat.le_of_ble_eq_true rfl)).trans ?_
      refine mj_bnd (fun q24 => ?_)
      refine (sx_icmp_eq (tgt := 1105) dx_234_563 (by decide)).trans ?_
      refine mj_ite ?_ ?_
      · refine (sx_iinc (v := 6) dx_234_1105 rfl rfl rfl).trans ?_
        refine (sx_goto (tgt := 18) dx_234_1108 (by decide)).trans ?_
        rfl
      · refine (sx_iconst (v := 0) dx_234_566 rfl).trans ?_
        exact sx_retz dx_234_567 rt_234 (by decide)
    refine mj_sel (fun hx1_12 => ?_) (fun hx1_12 => ?_)
    · refine (sx_tsw_in (off := 535) (tgt := 568) dx_234_33 hx1_12 (by decide) (by decide) (by decide)).trans ?_
      refine (sx_aload_n dx_234_568 rfl).trans ?_
      refine (sx_aload_n dx_234_569 rfl).trans ?_
      refine (sx_iload_n dx_234_570 rfl).trans ?_
      refine (sx_iconst (v := 1) dx_234_571 rfl).trans ?_
      refine (sx_iadd dx_234_572).trans ?_
      refine (sx_sld dx_234_573).trans ?_
      refine mj_ite ?_ rfl
      refine (sx_v1i dx_234_574 ow_234 cx_10_66 oc_0 (Nat.le_of_ble_eq_true rfl)).trans ?_
      refine mj_bnd (fun q25 => ?_)
      refine (sx_aload_n dx_234_577 rfl).trans ?_
      refine (sx_aload_n dx_234_578 rfl).trans ?_
      refine (sx_iload_n dx_234_579 rfl).trans ?_
      refine (sx_iconst (v := 1) dx_234_580 rfl).trans ?_
      refine (sx_iadd dx_234_581).trans ?_
      refine (sx_sld dx_234_582).trans ?_
      refine mj_ite ?_ rfl
      refine (sx_v1i dx_234_583 ow_234 cx_10_69 oc_45 (Nat.le_of_ble_eq_true rfl)).trans ?_
      refine mj_bnd (fun q26 => ?_)
      refine (sx_icmp_eq (tgt := 1105) dx_234_586 (by decide)).trans ?_
      refine mj_ite ?_ ?_
      · refine (sx_iinc (v := 6) dx_234_1105 rfl rfl rfl).trans ?_
        refine (sx_goto (tgt := 18) dx_234_1108 (by decide)).trans ?_
        rfl
      · refine (sx_iconst (v := 0) dx_234_589 rfl).trans ?_
        exact sx_retz dx_234_590 rt_234 (by decide)
    refine mj_sel (fun hx1_13 => ?_) (fun hx1_13 => ?_)
    · refine (sx_tsw_in (off := 558) (tgt := 591) dx_234_33 hx1_13 (by decide) (by decide) (by decide)).trans ?_
      refine (sx_aload_n dx_234_591 rfl).trans ?_
      refine (sx_aload_n dx_234_592 rfl).trans ?_
      refine (sx_iload_n dx_234_593 rfl).trans ?_
      refine (sx_iconst (v := 1) dx_234_594 rfl).trans ?_
      refine (sx_iadd dx_234_595).trans ?_
      refine (sx_sld dx_234_596).trans ?_
      refine mj_ite ?_ rfl
      refine (sx_aload_n dx_234_597 rfl).trans ?_
      refine (sx_iload_n dx_234_598 rfl).trans ?_
      refine (sx_iconst (v := 2) dx_234_599 rfl).trans ?_
      refine (sx_iadd dx_234_600).trans ?_
      refine (sx_sld dx_234_601).trans ?_
      refine mj_ite ?_ rfl
      refine (sx_v2i dx_234_602 ow_234 cx_10_70 oc_0 (Nat.le_of_ble_eq_true rfl)).trans ?_
      refine mj_bnd (fun q27 => ?_)
      refine (sx_aload_n dx_234_605 rfl).trans ?_
      refine (sx_aload_n dx_234_606 rfl).trans ?_
      refine (sx_iload_n dx_234_607 rfl).trans ?_
      refine (sx_iconst (v := 1) dx_234_608 rfl).trans ?_
      refine (sx_iadd dx_234_609).trans ?_
      refine (sx_sld dx_234_610).trans ?_
      refine mj_ite ?_ rfl
      refine (sx_aload_n dx_234_611 rfl).trans ?_
      refine (sx_iload_n dx_234_612 rfl).trans ?_
      refine (sx_iconst (v := 2) dx_234_613 rfl).trans ?_
      refine (sx_iadd dx_234_614).trans ?_
      refine (sx_sld dx_234_615).trans ?_
      refine mj_ite ?_ rfl
      refine (sx_v2i dx_234_616 ow_234 cx_10_73 oc_45 (Nat.le_of_ble_eq_true rfl)).trans ?_
      refine mj_bnd (fun q28 => ?_)
      refine (sx_icmp_eq (tgt := 1105) dx_234_619 (by decide)).trans ?_
      refine mj_ite ?_ ?_
      · refine (sx_iinc (v := 6) dx_234_1105 rfl rfl rfl).trans ?_
        refine (sx_goto (tgt := 18) dx_234_1108 (by decide)).trans ?_
        rfl
      · refine (sx_iconst (v := 0) dx_234_622 rfl).trans ?_
        exact sx_retz dx_234_623 rt_234 (by decide)
    refine mj_sel (fun hx1_14 => ?_) (fun hx1_14 => ?_)
    · refine (sx_tsw_in (off := 591) (tgt := 624) dx_234_33 hx1_14 (by decide) (by decide) (by decide)).trans ?_
      refine (sx_aload_n dx_234_624 rfl).trans ?_
      refine (sx_aload_n dx_234_625 rfl).trans ?_
      refine (sx_iload_n dx_234_626 rfl).trans ?_
      refine (sx_iconst (v := 1) dx_234_627 rfl).trans ?_
      refine (sx_iadd dx_234_628).trans ?_
      refine (sx_sld dx_234_629).trans ?_
      refine mj_ite ?_ rfl
      refine (sx_aload_n dx_234_630 rfl).trans ?_
      refine (sx_iload_n dx_234_631 rfl).trans ?_
      refine (sx_iconst (v := 2) dx_234_632 rfl).trans ?_
      refine (sx_iadd dx_234_633).trans ?_
      refine (sx_sld dx_234_634).trans ?_
      refine mj_ite ?_ rfl
      refine (sx_v2i dx_234_635 ow_234 cx_10_74 oc_0 (Nat.le_of_ble_eq_true rfl)).trans ?_
      refine mj_bnd (fun q29 => ?_)
      refine (sx_aload_n dx_234_638 rfl).trans ?_
      refine (sx_aload_n dx_234_639 rfl).trans ?_
      refine (sx_iload_n dx_234_640 rfl).trans ?_
      refine (sx_iconst (v := 1) dx_234_641 rfl).trans ?_
      refine (sx_iadd dx_234_642).trans ?_
      refine (sx_sld dx_234_643).trans ?_
      refine mj_ite ?_ rfl
      refine (sx_aload_n dx_234_644 rfl).trans ?_
      refine (sx_iload_n dx_234_645 rfl).trans ?_
      refine (sx_iconst (v := 2) dx_234_646 rfl).trans ?_
      refine (sx_iadd dx_234_647).trans ?_
      refine (sx_sld dx_234_648).trans ?_
      refine mj_ite ?_ rfl
      refine (sx_v2i dx_234_649 ow_234 cx_10_77 oc_45 (Nat.le_of_ble_eq_true rfl)).trans ?_
      refine mj_bnd (fun q30 => ?_)
      refine (sx_icmp_eq (tgt := 1105) dx_234_652 (by decide)).trans ?_
      refine mj_ite ?_ ?_
      · refine (sx_iinc (v := 6) dx_234_1105 rfl rfl rfl).trans ?_
        refine (sx_goto (tgt := 18) dx_234_1108 (by decide)).trans ?_
        rfl
      · refine (sx_iconst (v := 0) dx_234_655 rfl).trans ?_
        exact sx_retz dx_234_656 rt_234 (by decide)
    refine mj_sel (fun hx1_15 => ?_) (fun hx1_15 => ?_)
    · refine (sx_tsw_in (off := 624) (tgt := 657) dx_234_33 hx1_15 (by decide) (by decide) (by decide)).trans ?_
      refine (sx_aload_n dx_234_657 rfl).trans ?_
      refine (sx_aload_n dx_234_658 rfl).trans ?_
      refine (sx_iload_n dx_234_659 rfl).trans ?_
      refine (sx_iconst (v := 1) dx_234_660 rfl).trans ?_
      refine (sx_iadd dx_234_661).trans ?_
      refine (sx_sld dx_234_662).trans ?_
      refine mj_ite ?_ rfl
      refine (sx_aload_n dx_234_663 rfl).trans ?_
      refine (sx_iload_n dx_234_664 rfl).trans ?_
      refine (sx_iconst (v := 2) dx_234_665 rfl).trans ?_
      refine (sx_iadd dx_234_666).trans ?_
      refine (sx_sld dx_234_667).trans ?_
      refine mj_ite ?_ rfl
      refine (sx_v2i dx_234_668 ow_234 cx_10_78 oc_0 (Nat.le_of_ble_eq_true rfl)).trans ?_
      refine mj_bnd (fun q31 => ?_)
      refine (sx_aload_n dx_234_671 rfl).trans ?_
      refine (sx_aload_n dx_234_672 rfl).trans ?_
      refine (sx_iload_n dx_234_673 rfl).trans ?_
      refine (sx_iconst (v := 1) dx_234_674 rfl).trans ?_
      refine (sx_iadd dx_234_675).trans ?_
      refine (sx_sld dx_234_676).trans ?_
      refine mj_ite ?_ rfl
      refine (sx_aload_n dx_234_677 rfl).trans ?_
      refine (sx_iload_n dx_234_678 rfl).trans ?_
      refine (sx_iconst (v := 2) dx_234_679 rfl).trans ?_
      refine (sx_iadd dx_234_680).trans ?_
      refine (sx_sld dx_234_681).trans ?_
      refine mj_ite ?_ rfl
      refine (sx_v2i dx_234_682 ow_234 cx_10_81 oc_45 (Nat.le_of_ble_eq_true rfl)).trans ?_
      refine mj_bnd (fun q32 => ?_)
      refine (sx_icmp_eq (tgt := 1105) dx_234_685 (by decide)).trans ?_
      refine mj_ite ?_ ?_
      · refine (sx_iinc (v := 6) dx_234_1105 rfl rfl rfl).trans ?_
        refine (sx_goto (tgt := 18) dx_234_1108 (by decide)).trans ?_
        rfl
      · refine (sx_iconst (v := 0) dx_234_688 rfl).trans ?_
        exact sx_retz dx_234_689 rt_234 (by decide)
    refine mj_sel (fun hx1_16 => ?_) (fun hx1_16 => ?_)
    · refine (sx_tsw_in (off := 657) (tgt := 690) dx_234_33 hx1_16 (by decide) (by decide) (by decide)).trans ?_
      refine (sx_aload_n dx_234_690 rfl).trans ?_
      refine (sx_aload_n dx_234_691 rfl).trans ?_
      refine (sx_iload_n dx_234_692 rfl).trans ?_
      refine (sx_iconst (v := 1) dx_234_693 rfl).trans ?_
      refine (sx_iadd dx_234_694).trans ?_
      refine (sx_sld dx_234_695).trans ?_
      refine mj_ite ?_ rfl
      refine (sx_aload_n dx_234_696 rfl).trans ?_
      refine (sx_iload_n dx_234_697 rfl).trans ?_
      refine (sx_iconst (v := 2) dx_234_698 rfl).trans ?_
      refine (sx_iadd dx_234_699).trans ?_
      refine (sx_sld dx_234_700).trans ?_
      refine mj_ite ?_ rfl
      refine (sx_aload_n dx_234_701 rfl).trans ?_
      refine (sx_iload_n dx_234_702 rfl).trans ?_
      refine (sx_iconst (v := 3) dx_234_703 rfl).trans ?_
      refine (sx_iadd dx_234_704).trans ?_
      refine (sx_sld dx_234_705).trans ?_
      refine mj_ite ?_ rfl
      refine (sx_v3i dx_234_706 ow_234 cx_10_82 oc_0 (Nat.le_of_ble_eq_true rfl)).trans ?_
      refine mj_bnd (fun q33 => ?_)
      refine (sx_aload_n dx_234_709 rfl).trans ?_
      refine (sx_aload_n dx_234_710 rfl).trans ?_
      refine (sx_iload_n dx_234_711 rfl).trans ?_
      refine (sx_iconst (v := 1) dx_234_712 rfl).trans ?_
      refine (sx_iadd dx_234_713).trans ?_
      refine (sx_sld dx_234_714).trans ?_
      refine mj_ite ?_ rfl
      refine (sx_aload_n dx_234_715 rfl).trans ?_
      refine (sx_iload_n dx_234_716 rfl).trans ?_
      refine (sx_iconst (v := 2) dx_234_717 rfl).trans ?_
      refine (sx_iadd dx_234_718).trans ?_
      refine (sx_sld dx_234_719).trans ?_
      refine mj_ite ?_ rfl
      refine (sx_aload_n dx_234_720 rfl).trans ?_
      refine (sx_iload_n dx_234_721 rfl).trans ?_
      refine (sx_iconst (v := 3) dx_234_722 rfl).trans ?_
      refine (sx_iadd dx_234_723).trans ?_
      refine (sx_sld dx_234_724).trans ?_
      refine mj_ite ?_ rfl
      refine (sx_v3i dx_234_725 ow_234 cx_10_86 oc_45 (Nat.le_of_ble_eq_true rfl)).trans ?_
      refine mj_bnd (fun q34 => ?_)
      refine (sx_icmp_eq (tgt := 1105) dx_234_728 (by decide)).trans ?_
      refine mj_ite ?_ ?_
      · refine (sx_iinc (v := 6) dx_234_1105 rfl rfl rfl).trans ?_
        refine (sx_goto (tgt := 18) dx_234_1108 (by decide)).trans ?_
        rfl
      · refine (sx_iconst (v := 0) dx_234_731 rfl).trans ?_
        exact sx_retz dx_234_732 rt_234 (by decide)
    refine mj_sel (fun hx1_17 => ?_) (fun hx1_17 => ?_)
    · refine (sx_tsw_in (off := 700) (tgt := 733) dx_234_33 hx1_17 (by decide) (by decide) (by decide)).trans ?_
      refine (sx_aload_n dx_234_733 rfl).trans ?_
      refine (sx_aload_n dx_234_734 rfl).trans ?_
      refine (sx_iload_n dx_234_735 rfl).trans ?_
      refine (sx_iconst (v := 1) dx_234_736 rfl).trans ?_
      refine (sx_iadd dx_234_737).trans ?_
      refine (sx_sld dx_234_738).trans ?_
      refine mj_ite ?_ rfl
      refine (sx_aload_n dx_234_739 rfl).trans ?_
      refine (sx_iload_n dx_234_740 rfl).trans ?_
      refine (sx_iconst (v := 2) dx_234_741 rfl).trans ?_
      refine (sx_iadd dx_234_742).trans ?_
      refine (sx_sld dx_234_743).trans ?_
      refine mj_ite ?_ rfl
      refine (sx_v2i dx_234_744 ow_234 cx_10_87 oc_0 (Nat.le_of_ble_eq_true rfl)).trans ?_
      refine mj_bnd (fun q35 => ?_)
      refine (sx_aload_n dx_234_747 rfl).trans ?_
      refine (sx_aload_n dx_234_748 rfl).trans ?_
      refine (sx_iload_n dx_234_749 rfl).trans ?_
      refine (sx_iconst (v := 1) dx_234_750 rfl).trans ?_
      refine (sx_iadd dx_234_751).trans ?_
      refine (sx_sld dx_234_752).trans ?_
      refine mj_ite ?_ rfl
      refine (sx_aload_n dx_234_753 rfl).trans ?_
      refine (sx_iload_n dx_234_754 rfl).trans ?_
      refine (sx_iconst (v := 2) dx_234_755 rfl).trans ?_
      refine (sx_iadd dx_234_756).trans ?_
      refine (sx_sld dx_234_757).trans ?_
      refine mj_ite ?_ rfl
      refine (sx_v2i dx_234_758 ow_234 cx_10_90 oc_45 (Nat.le_of_ble_eq_true rfl)).trans ?_
      refine mj_bnd (fun q36 => ?_)
      refine (sx_icmp_eq (tgt := 1105) dx_234_761 (by decide)).trans ?_
      refine mj_ite ?_ ?_
      · refine (sx_iinc (v := 6) dx_234_1105 rfl rfl rfl).trans ?_
        refine (sx_goto (tgt := 18) dx_234_1108 (by decide)).trans ?_
        rfl
      · refine (sx_iconst (v := 0) dx_234_764 rfl).trans ?_
        exact sx_retz dx_234_765 rt_234 (by decide)
    refine mj_sel (fun hx1_18 => ?_) (fun hx1_18 => ?_)
    · refine (sx_tsw_in (off := 733) (tgt := 766) dx_234_33 hx1_18 (by decide) (by decide) (by decide)).trans ?_
      refine (sx_aload_n dx_234_766 rfl).trans ?_
      refine (sx_aload_n dx_234_767 rfl).trans ?_
      refine (sx_iload_n dx_234_768 rfl).trans ?_
      refine (sx_iconst (v := 1) dx_234_769 rfl).trans ?_
      refine (sx_iadd dx_234_770).trans ?_
      refine (sx_sld dx_234_771).trans ?_
      refine mj_ite ?_ rfl
      refine (sx_aload_n dx_234_772 rfl).trans ?_
      refine (sx_iload_n dx_234_773 rfl).trans ?_
      refine (sx_iconst (v := 2) dx_234_774 rfl).trans ?_
      refine (sx_iadd dx_234_775).trans ?_
      refine (sx_sld dx_234_776).trans ?_
      refine mj_ite ?_ rfl
      refine (sx_v2i dx_234_777 ow_234 cx_10_91 oc_0 (Nat.le_of_ble_eq_true rfl)).trans ?_
      refine mj_bnd (fun q37 => ?_)
      refine (sx_aload_n dx_234_780 rfl).trans ?_
      refine (sx_aload_n dx_234_781 rfl).trans ?_
      refine (sx_iload_n dx_234_782 rfl).trans ?_
      refine (sx_iconst (v := 1) dx_234_783 rfl).trans ?_
      refine (sx_iadd dx_234_784).trans ?_
      refine (sx_sld dx_234_785).trans ?_
      refine mj_ite ?_ rfl
      refine (sx_aload_n dx_234_786 rfl).trans ?_
      refine (sx_iload_n dx_234_787 rfl).trans ?_
      refine (sx_iconst (v := 2) dx_234_788 rfl).trans ?_
      refine (sx_iadd dx_234_789).trans ?_
      refine (sx_sld dx_234_790).trans ?_
      refine mj_ite ?_ rfl
      refine (sx_v2i dx_234_791 ow_234 cx_10_94 oc_45 (Nat.le_of_ble_eq_true rfl)).trans ?_
      refine mj_bnd (fun q38 => ?_)
      refine (sx_icmp_eq (tgt := 1105) dx_234_794 (by decide)).trans ?_
      refine mj_ite ?_ ?_
      · refine (sx_iinc (v := 6) dx_234_1105 rfl rfl rfl).trans ?_
        refine (sx_goto (tgt := 18) dx_234_1108 (by decide)).trans ?_
        rfl
      · refine (sx_iconst (v := 0) dx_234_797 rfl).trans ?_
        exact sx_retz dx_234_798 rt_234 (by decide)
    refine mj_sel (fun hx1_19 => ?_) (fun hx1_19 => ?_)
    · refine (sx_tsw_in (off := 766) (tgt := 799) dx_234_33 hx1_19 (by decide) (by decide) (by decide)).trans ?_
      refine (sx_aload_n dx_234_799 rfl).trans ?_
      refine (sx_aload_n dx_234_800 rfl).trans ?_
      refine (sx_iload_n dx_234_801 rfl).trans ?_
      refine (sx_iconst (v := 1) dx_234_802 rfl).trans ?_
      refine (sx_iadd dx_234_803).trans ?_
      refine (sx_sld dx_234_804).trans ?_
      refine mj_ite ?_ rfl
      refine (sx_aload_n dx_234_805 rfl).trans ?_
      refine (sx_iload_n dx_234_806 rfl).trans ?_
      refine (sx_iconst (v := 2) dx_234_807 rfl).trans ?_
      refine (sx_iadd dx_234_808).trans ?_
      refine (sx_sld dx_234_809).trans ?_
      refine mj_ite ?_ rfl
      refine (sx_v2i dx_234_810 ow_234 cx_10_95 oc_0 (Nat.le_of_ble_eq_true rfl)).trans ?_
      refine mj_bnd (fun q39 => ?_)
      refine (sx_aload_n dx_234_813 rfl).trans ?_
      refine (sx_aload_n dx_234_814 rfl).trans ?_
      refine (sx_iload_n dx_234_815 rfl).trans ?_
      refine (sx_iconst (v := 1) dx_234_816 rfl).trans ?_
      refine (sx_iadd dx_234_817).trans ?_
      refine (sx_sld dx_234_818).trans ?_
      refine mj_ite ?_ rfl
      refine (sx_aload_n dx_234_819 rfl).trans ?_
      refine (sx_iload_n dx_234_820 rfl).trans ?_
      refine (sx_iconst (v := 2) dx_234_821 rfl).trans ?_
      refine (sx_iadd dx_234_822).trans ?_
      refine (sx_sld dx_234_823).trans ?_
      refine mj_ite ?_ rfl
      refine (sx_v2i dx_234_824 ow_234 cx_10_98 oc_45 (Nat.le_of_ble_eq_true rfl)).trans ?_
      refine mj_bnd (fun q40 => ?_)
      refine (sx_icmp_eq (tgt := 1105) dx_234_827 (by decide)).trans ?_
      refine mj_ite ?_ ?_
      · refine (sx_iinc (v := 6) dx_234_1105 rfl rfl rfl).trans ?_
        refine (sx_goto (tgt := 18) dx_234_1108 (by decide)).trans ?_
        rfl
      · refine (sx_iconst (v := 0) dx_234_830 rfl).trans ?_
        exact sx_retz dx_234_831 rt_234 (by decide)
    refine mj_sel (fun hx1_20 => ?_) (fun hx1_20 => ?_)
    · refine (sx_tsw_in (off := 799) (tgt := 832) dx_234_33 hx1_20 (by decide) (by decide) (by decide)).trans ?_
      refine (sx_aload_n dx_234_832 rfl).trans ?_
      refine (sx_aload_n dx_234_833 rfl).trans ?_
      refine (sx_iload_n dx_234_834 rfl).trans ?_
      refine (sx_iconst (v := 1) dx_234_835 rfl).trans ?_
      refine (sx_iadd dx_234_836).trans ?_
      refine (sx_sld dx_234_837).trans ?_
      refine mj_ite ?_ rfl
      refine (sx_aload_n dx_234_838 rfl).trans ?_
      refine (sx_iload_n dx_234_839 rfl).trans ?_
      refine (sx_iconst (v := 2) dx_234_840 rfl).trans ?_
      refine (sx_iadd dx_234_841).trans ?_
      refine (sx_sld dx_234_842).trans ?_
      refine mj_ite ?_ rfl
      refine (sx_v2i dx_234_843 ow_234 cx_10_99 oc_0 (Nat.le_of_ble_eq_true rfl)).trans ?_
      refine mj_bnd (fun q41 => ?_)
      refine (sx_aload_n dx_234_846 rfl).trans ?_
      refine (sx_aload_n dx_234_847 rfl).trans ?_
      refine (sx_iload_n dx_234_848 rfl).trans ?_
      refine (sx_iconst (v := 1) dx_234_849 rfl).trans ?_
      refine (sx_iadd dx_234_850).trans ?_
      refine (sx_sld dx_234_851).trans ?_
      refine mj_ite ?_ rfl
      refine (sx_aload_n dx_234_852 rfl).trans ?_
      refine (sx_iload_n dx_234_853 rfl).trans ?_
      refine (sx_iconst (v := 2) dx_234_854 rfl).trans ?_
      refine (sx_iadd dx_234_855).trans ?_
      refine (sx_sld dx_234_856).trans ?_
      refine mj_ite ?_ rfl
      refine (sx_v2i dx_234_857 ow_234 cx_10_102 oc_45 (Nat.le_of_ble_eq_true rfl)).trans ?_
      refine mj_bnd (fun q42 => ?_)
      refine (sx_icmp_eq (tgt := 1105) dx_234_860 (by decide)).trans ?_
      refine mj_ite ?_ ?_
      · refine (sx_iinc (v := 6) dx_234_1105 rfl rfl rfl).trans ?_
        refine (sx_goto (tgt := 18) dx_234_1108 (by decide)).trans ?_
        rfl
      · refine (sx_iconst (v := 0) dx_234_863 rfl).trans ?_
        exact sx_retz dx_234_864 rt_234 (by decide)
    refine mj_sel (fun hx1_21 => ?_) (fun hx1_21 => ?_)
    · refine (sx_tsw_in (off := 832) (tgt := 865) dx_234_33 hx1_21 (by decide) (by decide) (by decide)).trans ?_
      refine (sx_aload_n dx_234_865 rfl).trans ?_
      refine (sx_v0i dx_234_866 ow_234 cx_10_103 oc_0 (Nat.le_of_ble_eq_true rfl)).trans ?_
      refine mj_bnd (fun q43 => ?_)
      refine (sx_aload_n dx_234_869 rfl).trans ?_
      refine (sx_v0i dx_234_870 ow_234 cx_10_107 oc_45 (Nat.le_of_ble_eq_true rfl)).trans ?_
      refine mj_bnd (fun q44 => ?_)
      refine (sx_icmp_eq (tgt := 1105) dx_234_873 (by decide)).trans ?_
      refine mj_ite ?_ ?_
      · refine (sx_iinc (v := 6) dx_234_1105 rfl rfl rfl).trans ?_
        refine (sx_goto (tgt := 18) dx_234_1108 (by decide)).trans ?_
        rfl
      · refine (sx_iconst (v := 0) dx_234_876 rfl).trans ?_
        exact sx_retz dx_234_877 rt_234 (by decide)
    refine mj_sel (fun hx1_22 => ?_) (fun hx1_22 => ?_)
    · refine (sx_tsw_in (off := 845) (tgt := 878) dx_234_33 hx1_22 (by decide) (by decide) (by decide)).trans ?_
      refine (sx_aload_n dx_234_878 rfl).trans ?_
      refine (sx_aload_n dx_234_879 rfl).trans ?_
      refine (sx_iload_n dx_234_880 rfl).trans ?_
      refine (sx_iconst (v := 1) dx_234_881 rfl).trans ?_
      refine (sx_iadd dx_234_882).trans ?_
      refine (sx_sld dx_234_883).trans ?_
      refine mj_ite ?_ rfl
      refine (sx_aload_n dx_234_884 rfl).trans ?_
      refine (sx_iload_n dx_234_885 rfl).trans ?_
      refine (sx_iconst (v := 2) dx_234_886 rfl).trans ?_
      refine (sx_iadd dx_234_887).trans ?_
      refine (sx_sld dx_234_888).trans ?_
      refine mj_ite ?_ rfl
      refine (sx_v2i dx_234_889 ow_234 cx_10_108 oc_0 (Nat.le_of_ble_eq_true rfl)).trans ?_
      refine mj_bnd (fun q45 => ?_)
      refine (sx_aload_n dx_234_892 rfl).trans ?_
      refine (sx_aload_n dx_234_893 rfl).trans ?_
      refine (sx_iload_n dx_234_894 rfl).trans ?_
      refine (sx_iconst (v := 1) dx_234_895 rfl).trans ?_
      refine (sx_iadd dx_234_896).trans ?_
      refine (sx_sld dx_234_897).trans ?_
      refine mj_ite ?_ rfl
      refine (sx_aload_n dx_234_898 rfl).trans ?_
      refine (sx_iload_n dx_234_899 rfl).trans ?_
      refine (sx_iconst (v := 2) dx_234_900 rfl).trans ?_
      refine (sx_iadd dx_234_901).trans ?_
      refine (sx_sld dx_234_902).trans ?_
      refine mj_ite ?_ rfl
      refine (sx_v2i dx_234_903 ow_234 cx_10_111 oc_45 (Nat.le_of_ble_eq_true rfl)).trans ?_
      refine mj_bnd (fun q46 => ?_)
      refine (sx_icmp_eq (tgt := 1105) dx_234_906 (by decide)).trans ?_
      refine mj_ite ?_ ?_
      · refine (sx_iinc (v := 6) dx_234_1105 rfl rfl rfl).trans ?_
        refine (sx_goto (tgt := 18) dx_234_1108 (by decide)).trans ?_
        rfl
      · refine (sx_iconst (v := 0) dx_234_909 rfl).trans ?_
        exact sx_retz dx_234_910 rt_234 (by decide)
    refine mj_sel (fun hx1_23 => ?_) (fun hx1_23 => ?_)
    · refine (sx_tsw_in (off := 878) (tgt := 911) dx_234_33 hx1_23 (by decide) (by decide) (by decide)).trans ?_
      refine (sx_aload_n dx_234_911 rfl).trans ?_
      refine (sx_aload_n dx_234_912 rfl).trans ?_
      refine (sx_iload_n dx_234_913 rfl).trans ?_
      refine (sx_iconst (v := 1) dx_234_914 rfl).trans ?_
      refine (sx_iadd dx_234_915).trans ?_
      refine (sx_sld dx_234_916).trans ?_
      refine mj_ite ?_ rfl
      refine (sx_aload_n dx_234_917 rfl).trans ?_
      refine (sx_iload_n dx_234_918 rfl).trans ?_
      refine (sx_iconst (v := 2) dx_234_919 rfl).trans ?_
      refine (sx_iadd dx_234_920).trans ?_
      refine (sx_sld dx_234_921).trans ?_
      refine mj_ite ?_ rfl
      refine (sx_v2i dx_234_922 ow_234 cx_10_112 oc_0 (Nat.le_of_ble_eq_true rfl)).trans ?_
      refine mj_bnd (fun q47 => ?_)
      refine (sx_aload_n dx_234_925 rfl).trans ?_
      refine (sx_aload_n dx_234_926 rfl).trans ?_
      refine (sx_iload_n dx_234_927 rfl).trans ?_
      refine (sx_iconst (v := 1) dx_234_928 rfl).trans ?_
      refine (sx_iadd dx_234_929).trans ?_
      refine (sx_sld dx_234_930).trans ?_
      refine mj_ite ?_ rfl
      refine (sx_aload_n dx_234_931 rfl).trans ?_
      refine (sx_iload_n dx_234_932 rfl).trans ?_
      refine (sx_iconst (v := 2) dx_234_933 rfl).trans ?_
      refine (sx_iadd dx_234_934).trans ?_
      refine (sx_sld dx_234_935).trans ?_
      refine mj_ite ?_ rfl
      refine (sx_v2i dx_234_936 ow_234 cx_10_115 oc_45 (Nat.le_of_ble_eq_true rfl)).trans ?_
      refine mj_bnd (fun q48 => ?_)
      refine (sx_icmp_eq (tgt := 1105) dx_234_939 (by decide)).trans ?_
      refine mj_ite ?_ ?_
      · refine (sx_iinc (v := 6) dx_234_1105 rfl rfl rfl).trans ?_
        refine (sx_goto (tgt := 18) dx_234_1108 (by decide)).trans ?_
        rfl
      · refine (sx_iconst (v := 0) dx_234_942 rfl).trans ?_
        exact sx_retz dx_234_943 rt_234 (by decide)
    refine mj_sel (fun hx1_24 => ?_) (fun hx1_24 => ?_)
    · refine (sx_tsw_in (off := 911) (tgt := 944) dx_234_33 hx1_24 (by decide) (by decide) (by decide)).trans ?_
      refine (sx_aload_n dx_234_944 rfl).trans ?_
      refine (sx_aload_n dx_234_945 rfl).trans ?_
      refine (sx_iload_n dx_234_946 rfl).trans ?_
      refine (sx_iconst (v := 1) dx_234_947 rfl).trans ?_
      refine (sx_iadd dx_234_948).trans ?_
      refine (sx_sld dx_234_949).trans ?_
      refine mj_ite ?_ rfl
      refine (sx_aload_n dx_234_950 rfl).trans ?_
      refine (sx_iload_n dx_234_951 rfl).trans ?_
      refine (sx_iconst (v := 2) dx_234_952 rfl).trans ?_
      refine (sx_iadd dx_234_953).trans ?_
      refine (sx_sld dx_234_954).trans ?_
      refine mj_ite ?_ rfl
      refine (sx_v2i dx_234_955 ow_234 cx_10_116 oc_0 (Nat.le_of_ble_eq_true rfl)).trans ?_
      refine mj_bnd (fun q49 => ?_)
      refine (sx_aload_n dx_234_958 rfl).trans ?_
      refine (sx_aload_n dx_234_959 rfl).trans ?_
      refine (sx_iload_n dx_234_960 rfl).trans ?_
      refine (sx_iconst (v := 1) dx_234_961 rfl).trans ?_
      refine (sx_iadd dx_234_962).trans ?_
      refine (sx_sld dx_234_963).trans ?_
      refine mj_ite ?_ rfl
      refine (sx_aload_n dx_234_964 rfl).trans ?_
      refine (sx_iload_n dx_234_965 rfl).trans ?_
      refine (sx_iconst (v := 2) dx_234_966 rfl).trans ?_
      refine (sx_iadd dx_234_967).trans ?_
      refine (sx_sld dx_234_968).trans ?_
      refine mj_ite ?_ rfl
      refine (sx_v2i dx_234_969 ow_234 cx_10_119 oc_45 (Nat.le_of_ble_eq_true rfl)).trans ?_
      refine mj_bnd (fun q50 => ?_)
      refine (sx_icmp_eq (tgt := 1105) dx_234_972 (by decide)).trans ?_
      refine mj_ite ?_ ?_
      · refine (sx_iinc (v := 6) dx_234_1105 rfl rfl rfl).trans ?_
        refine (sx_goto (tgt := 18) dx_234_1108 (by decide)).trans ?_
        rfl
      · refine (sx_iconst (v := 0) dx_234_975 rfl).trans ?_
        exact sx_retz dx_234_976 rt_234 (by decide)
    refine mj_sel (fun hx1_25 => ?_) (fun hx1_25 => ?_)
    · refine (sx_tsw_in (off := 944) (tgt := 977) dx_234_33 hx1_25 (by decide) (by decide) (by decide)).trans ?_
      refine (sx_aload_n dx_234_977 rfl).trans ?_
      refine (sx_aload_n dx_234_978 rfl).trans ?_
      refine (sx_iload_n dx_234_979 rfl).trans ?_
      refine (sx_iconst (v := 1) dx_234_980 rfl).trans ?_
      refine (sx_iadd dx_234_981).trans ?_
      refine (sx_sld dx_234_982).trans ?_
      refine mj_ite ?_ rfl
      refine (sx_aload_n dx_234_983 rfl).trans ?_
      refine (sx_iload_n dx_234_984 rfl).trans ?_
      refine (sx_iconst (v := 2) dx_234_985 rfl).trans ?_
      refine (sx_iadd dx_234_986).trans ?_
      refine (sx_sld dx_234_987).trans ?_
      refine mj_ite ?_ rfl
      refine (sx_v2i dx_234_988 ow_234 cx_10_120 oc_0 (Nat.le_of_ble_eq_true rfl)).trans ?_
      refine mj_bnd (fun q51 => ?_)
      refine (sx_aload_n dx_234_991 rfl).trans ?_
      refine (sx_aload_n dx_234_992 rfl).trans ?_
      refine (sx_iload_n dx_234_993 rfl).trans ?_
      refine (sx_iconst (v := 1) dx_234_994 rfl).trans ?_
      refine (sx_iadd dx_234_995).trans ?_
      refine (sx_sld dx_234_996).trans ?_
      refine mj_ite ?_ rfl
      refine (sx_aload_n dx_234_997 rfl).trans ?_
      refine (sx_iload_n dx_234_998 rfl).trans ?_
      refine (sx_iconst (v := 2) dx_234_999 rfl).trans ?_
      refine (sx_iadd dx_234_1000).trans ?_
      refine (sx_sld dx_234_1001).trans ?_
      refine mj_ite ?_ rfl
      refine (sx_v2i dx_234_1002 ow_234 cx_10_123 oc_45 (Nat.le_of_ble_eq_true rfl)).trans ?_
      refine mj_bnd (fun q52 => ?_)
      refine (sx_icmp_eq (tgt := 1105) dx_234_1005 (by decide)).trans ?_
      refine mj_ite ?_ ?_
      · refine (sx_iinc (v := 6) dx_234_1105 rfl rfl rfl).trans ?_
        refine (sx_goto (tgt := 18) dx_234_1108 (by decide)).trans ?_
        rfl
      · refine (sx_iconst (v := 0) dx_234_1008 rfl).trans ?_
        exact sx_retz dx_234_1009 rt_234 (by decide)
    refine mj_sel (fun hx1_26 => ?_) (fun hx1_26 => ?_)
    · refine (sx_tsw_in (off := 977) (tgt := 1010) dx_234_33 hx1_26 (by decide) (by decide) (by decide)).trans ?_
      refine (sx_aload_n dx_234_1010 rfl).trans ?_
      refine (sx_aload_n dx_234_1011 rfl).trans ?_
      refine (sx_iload_n dx_234_1012 rfl).trans ?_
      refine (sx_iconst (v := 1) dx_234_1013 rfl).trans ?_
      refine (sx_iadd dx_234_1014).trans ?_
      refine (sx_sld dx_234_1015).trans ?_
      refine mj_ite ?_ rfl
      refine (sx_v1i dx_234_1016 ow_234 cx_10_124 oc_0 (Nat.le_of_ble_eq_true rfl)).trans ?_
      refine mj_bnd (fun q53 => ?_)
      refine (sx_aload_n dx_234_1019 rfl).trans ?_
      refine (sx_aload_n dx_234_1020 rfl).trans ?_
      refine (sx_iload_n dx_234_1021 rfl).trans ?_
      refine (sx_iconst (v := 1) dx_234_1022 rfl).trans ?_
      refine (sx_iadd dx_234_1023).trans ?_
      refine (sx_sld dx_234_1024).trans ?_
      refine mj_ite ?_ rfl
      refine (sx_v1i dx_234_1025 ow_234 cx_10_128 oc_45 (Nat.le_of_ble_eq_true rfl)).trans ?_
      refine mj_bnd (fun q54 => ?_)
      refine (sx_icmp_eq (tgt := 1105) dx_234_1028 (by decide)).trans ?_
      refine mj_ite ?_ ?_
      · refine (sx_iinc (v := 6) dx_234_1105 rfl rfl rfl).trans ?_
        refine (sx_goto (tgt := 18) dx_234_1108 (by decide)).trans ?_
        rfl
      · refine (sx_iconst (v := 0) dx_234_1031 rfl).trans ?_
        exact sx_retz dx_234_1032 rt_234 (by decide)
    refine mj_sel (fun hx1_27 => ?_) (fun hx1_27 => ?_)
    · refine (sx_tsw_in (off := 1000) (tgt := 1033) dx_234_33 hx1_27 (by decide) (by decide) (by decide)).trans ?_
      refine (sx_aload_n dx_234_1033 rfl).trans ?_
      refine (sx_v0i dx_234_1034 ow_234 cx_10_129 oc_0 (Nat.le_of_ble_eq_true rfl)).trans ?_
      refine mj_bnd (fun q55 => ?_)
      refine (sx_aload_n dx_234_1037 rfl).trans ?_
      refine (sx_v0i dx_234_1038 ow_234 cx_10_132 oc_45 (Nat.le_of_ble_eq_true rfl)).trans ?_
      refine mj_bnd (fun q56 => ?_)
      refine (sx_icmp_eq (tgt := 1105) dx_234_1041 (by decide)).trans ?_
      refine mj_ite ?_ ?_
      · refine (sx_iinc (v := 6) dx_234_1105 rfl rfl rfl).trans ?_
        refine (sx_goto (tgt := 18) dx_234_1108 (by decide)).trans ?_
        rfl
      · refine (sx_iconst (v := 0) dx_234_1044 rfl).trans ?_
        exact sx_retz dx_234_1045 rt_234 (by decide)
    refine mj_sel (fun hx1_28 => ?_) (fun hx1_28 => ?_)
    · refine (sx_tsw_in (off := 1013) (tgt := 1046) dx_234_33 hx1_28 (by decide) (by decide) (by decide)).trans ?_
      refine (sx_aload_n dx_234_1046 rfl).trans ?_
      refine (sx_v0i dx_234_1047 ow_234 cx_10_133 oc_0 (Nat.le_of_ble_eq_true rfl)).trans ?_
      refine mj_bnd (fun q57 => ?_)
      refine (sx_aload_n dx_234_1050 rfl).trans ?_
      refine (sx_v0i dx_234_1051 ow_234 cx_10_137 oc_45 (Nat.le_of_ble_eq_true rfl)).trans ?_
      refine mj_bnd (fun q58 => ?_)
      refine (sx_icmp_eq (tgt := 1105) dx_234_1054 (by decide)).trans ?_
      refine mj_ite ?_ ?_
      · refine (sx_iinc (v := 6) dx_234_1105 rfl rfl rfl).trans ?_
        refine (sx_goto (tgt := 18) dx_234_1108 (by decide)).trans ?_
        rfl
      · refine (sx_iconst (v := 0) dx_234_1057 rfl).trans ?_
        exact sx_retz dx_234_1058 rt_234 (by decide)
    refine mj_sel (fun hx1_29 => ?_) (fun hx1_29 => ?_)
    · refine (sx_tsw_in (off := 1026) (tgt := 1059) dx_234_33 hx1_29 (by decide) (by decide) (by decide)).trans ?_
      refine (sx_aload_n dx_234_1059 rfl).trans ?_
      refine (sx_aload_n dx_234_1060 rfl).trans ?_
      refine (sx_iload_n dx_234_1061 rfl).trans ?_
      refine (sx_iconst (v := 1) dx_234_1062 rfl).trans ?_
      refine (sx_iadd dx_234_1063).trans ?_
      refine (sx_sld dx_234_1064).trans ?_
      refine mj_ite ?_ rfl
      refine (sx_v1i dx_234_1065 ow_234 cx_10_138 oc_0 (Nat.le_of_ble_eq_true rfl)).trans ?_
      refine mj_bnd (fun q59 => ?_)
      refine (sx_aload_n dx_234_1068 rfl).trans ?_
      refine (sx_aload_n dx_234_1069 rfl).trans ?_
      refine (sx_iload_n dx_234_1070 rfl).trans ?_
      refine (sx_iconst (v := 1) dx_234_1071 rfl).trans ?_
      refine (sx_iadd dx_234_1072).trans ?_
      refine (sx_sld dx_234_1073).trans ?_
      refine mj_ite ?_ rfl
      refine (sx_v1i dx_234_1074 ow_234 cx_10_141 oc_45 (Nat.le_of_ble_eq_true rfl)).trans ?_
      refine mj_bnd (fun q60 => ?_)
      refine (sx_icmp_eq (tgt := 1105) dx_234_1077 (by decide)).trans ?_
      refine mj_ite ?_ ?_
      · refine (sx_iinc (v := 6) dx_234_1105 rfl rfl rfl).trans ?_
        refine (sx_goto (tgt := 18) dx_234_1108 (by decide)).trans ?_
        rfl
      · refine (sx_iconst (v := 0) dx_234_1080 rfl).trans ?_
        exact sx_retz dx_234_1081 rt_234 (by decide)
    refine mj_sel (fun hx1_30 => ?_) (fun hx1_30 => ?_)
    · refine (sx_tsw_in (off := 1049) (tgt := 1082) dx_234_33 hx1_30 (by decide) (by decide) (by decide)).trans ?_
      refine (sx_aload_n dx_234_1082 rfl).trans ?_
      refine (sx_aload_n dx_234_1083 rfl).trans ?_
      refine (sx_iload_n dx_234_1084 rfl).trans ?_
      refine (sx_iconst (v := 1) dx_234_1085 rfl).trans ?_
      refine (sx_iadd dx_234_1086).trans ?_
      refine (sx_sld dx_234_1087).trans ?_
      refine mj_ite ?_ rfl
      refine (sx_v1i dx_234_1088 ow_234 cx_10_142 oc_0 (Nat.le_of_ble_eq_true rfl)).trans ?_
      refine mj_bnd (fun q61 => ?_)
      refine (sx_aload_n dx_234_1091 rfl).trans ?_
      refine (sx_aload_n dx_234_1092 rfl).trans ?_
      refine (sx_iload_n dx_234_1093 rfl).trans ?_
      refine (sx_iconst (v := 1) dx_234_1094 rfl).trans ?_
      refine (sx_iadd dx_234_1095).trans ?_
      refine (sx_sld dx_234_1096).trans ?_
      refine mj_ite ?_ rfl
      refine (sx_v1i dx_234_1097 ow_234 cx_10_145 oc_45 (Nat.le_of_ble_eq_true rfl)).trans ?_
      refine mj_bnd (fun q62 => ?_)
      refine (sx_icmp_eq (tgt := 1105) dx_234_1100 (by decide)).trans ?_
      refine mj_ite ?_ ?_
      · refine (sx_iinc (v := 6) dx_234_1105 rfl rfl rfl).trans ?_
        refine (sx_goto (tgt := 18) dx_234_1108 (by decide)).trans ?_
        rfl
      · refine (sx_iconst (v := 0) dx_234_1103 rfl).trans ?_
        exact sx_retz dx_234_1104 rt_234 (by decide)
    have zhx1_0 := mj_ne hx1_0 (n := 0) (by decide)
    have zhx1_1 := mj_ne hx1_1 (n := 1) (by decide)
    have zhx1_2 := mj_ne hx1_2 (n := 2) (by decide)
    have zhx1_3 := mj_ne hx1_3 (n := 3) (by decide)
    have zhx1_4 := mj_ne hx1_4 (n := 4) (by decide)
    have zhx1_5 := mj_ne hx1_5 (n := 5) (by decide)
    have zhx1_6 := mj_ne hx1_6 (n := 6) (by decide)
    have zhx1_7 := mj_ne hx1_7 (n := 7) (by decide)
    have zhx1_8 := mj_ne hx1_8 (n := 8) (by decide)
    have zhx1_9 := mj_ne hx1_9 (n := 9) (by decide)
    have zhx1_10 := mj_ne hx1_10 (n := 10) (by decide)
    have zhx1_11 := mj_ne hx1_11 (n := 11) (by decide)
    have zhx1_12 := mj_ne hx1_12 (n := 12) (by decide)
    have zhx1_13 := mj_ne hx1_13 (n := 13) (by decide)
    have zhx1_14 := mj_ne hx1_14 (n := 14) (by decide)
    have zhx1_15 := mj_ne hx1_15 (n := 15) (by decide)
    have zhx1_16 := mj_ne hx1_16 (n := 16) (by decide)
    have zhx1_17 := mj_ne hx1_17 (n := 17) (by decide)
    have zhx1_18 := mj_ne hx1_18 (n := 18) (by decide)
    have zhx1_19 := mj_ne hx1_19 (n := 19) (by decide)
    have zhx1_20 := mj_ne hx1_20 (n := 20) (by decide)
    have zhx1_21 := mj_ne hx1_21 (n := 21) (by decide)
    have zhx1_22 := mj_ne hx1_22 (n := 22) (by decide)
    have zhx1_23 := mj_ne hx1_23 (n := 23) (by decide)
    have zhx1_24 := mj_ne hx1_24 (n := 24) (by decide)
    have zhx1_25 := mj_ne hx1_25 (n := 25) (by decide)
    have zhx1_26 := mj_ne hx1_26 (n := 26) (by decide)
    have zhx1_27 := mj_ne hx1_27 (n := 27) (by decide)
    have zhx1_28 := mj_ne hx1_28 (n := 28) (by decide)
    have zhx1_29 := mj_ne hx1_29 (n := 29) (by decide)
    have zhx1_30 := mj_ne hx1_30 (n := 30) (by decide)
    refine (sx_tsw_out (tgt := 1105) dx_234_33 (by omega) (by decide)).trans ?_
    refine (sx_iinc (v := 6) dx_234_1105 rfl rfl rfl).trans ?_
    refine (sx_goto (tgt := 18) dx_234_1108 (by decide)).trans ?_
    rfl
  · refine (sx_iconst (v := 1) dx_234_1111 rfl).trans ?_
    exact sx_retz dx_234_1112 rt_234 (by decide)
