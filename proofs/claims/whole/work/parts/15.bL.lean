theorem dx_232_18 : mj_at 232 18 = some (.iload_n 3) := by decide +kernel
theorem dx_232_19 : mj_at 232 19 = some (.aload_n 0) := by decide +kernel
theorem dx_232_20 : mj_at 232 20 = some (.arraylength) := by decide +kernel
theorem dx_232_21 : mj_at 232 21 = some (.bipush 6) := by decide +kernel
theorem dx_232_23 : mj_at 232 23 = some (.isub) := by decide +kernel
theorem dx_232_24 : mj_at 232 24 = some (.if_icmp .gt 1087) := by decide +kernel
theorem dx_232_27 : mj_at 232 27 = some (.aload_n 0) := by decide +kernel
theorem dx_232_28 : mj_at 232 28 = some (.iload_n 3) := by decide +kernel
theorem dx_232_29 : mj_at 232 29 = some (.iaload) := by decide +kernel
theorem dx_232_30 : mj_at 232 30 = some (.bipush 31) := by decide +kernel
theorem dx_232_32 : mj_at 232 32 = some (.iand) := by decide +kernel
theorem dx_232_33 : mj_at 232 33 = some (.tableswitch 1072 0 30 #[139, 172, 215, 258, 321, 344, 367, 390, 413, 446, 479, 512, 535, 558, 591, 624, 657, 700, 733, 766, 799, 832, 845, 878, 911, 944, 977, 1000, 1013, 1026, 1049]) := by decide +kernel
theorem dx_232_172 : mj_at 232 172 = some (.aload_n 1) := by decide +kernel
theorem dx_232_173 : mj_at 232 173 = some (.aload_n 0) := by decide +kernel
theorem dx_232_174 : mj_at 232 174 = some (.iload_n 3) := by decide +kernel
theorem dx_232_175 : mj_at 232 175 = some (.iconst 1) := by decide +kernel
theorem dx_232_176 : mj_at 232 176 = some (.iadd) := by decide +kernel
theorem dx_232_177 : mj_at 232 177 = some (.iaload) := by decide +kernel
theorem dx_232_178 : mj_at 232 178 = some (.aload_n 0) := by decide +kernel
theorem dx_232_179 : mj_at 232 179 = some (.iload_n 3) := by decide +kernel
theorem dx_232_180 : mj_at 232 180 = some (.iconst 2) := by decide +kernel
theorem dx_232_181 : mj_at 232 181 = some (.iadd) := by decide +kernel
theorem dx_232_182 : mj_at 232 182 = some (.iaload) := by decide +kernel
theorem dx_232_183 : mj_at 232 183 = some (.invokevirtual 13) := by decide +kernel
theorem dx_232_186 : mj_at 232 186 = some (.aload_n 2) := by decide +kernel
theorem dx_232_187 : mj_at 232 187 = some (.aload_n 0) := by decide +kernel
theorem dx_232_188 : mj_at 232 188 = some (.iload_n 3) := by decide +kernel
theorem dx_232_189 : mj_at 232 189 = some (.iconst 1) := by decide +kernel
theorem dx_232_190 : mj_at 232 190 = some (.iadd) := by decide +kernel
theorem dx_232_191 : mj_at 232 191 = some (.iaload) := by decide +kernel
theorem dx_232_192 : mj_at 232 192 = some (.aload_n 0) := by decide +kernel
theorem dx_232_193 : mj_at 232 193 = some (.iload_n 3) := by decide +kernel
theorem dx_232_194 : mj_at 232 194 = some (.iconst 2) := by decide +kernel
theorem dx_232_195 : mj_at 232 195 = some (.iadd) := by decide +kernel
theorem dx_232_196 : mj_at 232 196 = some (.iaload) := by decide +kernel
theorem dx_232_197 : mj_at 232 197 = some (.invokevirtual 17) := by decide +kernel
theorem dx_232_200 : mj_at 232 200 = some (.if_icmp .eq 905) := by decide +kernel
theorem dx_232_203 : mj_at 232 203 = some (.iconst 0) := by decide +kernel
theorem dx_232_204 : mj_at 232 204 = some (.ireturn) := by decide +kernel
theorem dx_232_205 : mj_at 232 205 = some (.aload_n 1) := by decide +kernel
theorem dx_232_206 : mj_at 232 206 = some (.aload_n 0) := by decide +kernel
theorem dx_232_207 : mj_at 232 207 = some (.iload_n 3) := by decide +kernel
theorem dx_232_208 : mj_at 232 208 = some (.iconst 1) := by decide +kernel
theorem dx_232_209 : mj_at 232 209 = some (.iadd) := by decide +kernel
theorem dx_232_210 : mj_at 232 210 = some (.iaload) := by decide +kernel
theorem dx_232_211 : mj_at 232 211 = some (.aload_n 0) := by decide +kernel
theorem dx_232_212 : mj_at 232 212 = some (.iload_n 3) := by decide +kernel
theorem dx_232_213 : mj_at 232 213 = some (.iconst 2) := by decide +kernel
theorem dx_232_214 : mj_at 232 214 = some (.iadd) := by decide +kernel
theorem dx_232_215 : mj_at 232 215 = some (.iaload) := by decide +kernel
theorem dx_232_216 : mj_at 232 216 = some (.aload_n 0) := by decide +kernel
theorem dx_232_217 : mj_at 232 217 = some (.iload_n 3) := by decide +kernel
theorem dx_232_218 : mj_at 232 218 = some (.iconst 3) := by decide +kernel
theorem dx_232_219 : mj_at 232 219 = some (.iadd) := by decide +kernel
theorem dx_232_220 : mj_at 232 220 = some (.iaload) := by decide +kernel
theorem dx_232_221 : mj_at 232 221 = some (.invokevirtual 18) := by decide +kernel
theorem dx_232_224 : mj_at 232 224 = some (.aload_n 2) := by decide +kernel
theorem dx_232_225 : mj_at 232 225 = some (.aload_n 0) := by decide +kernel
theorem dx_232_226 : mj_at 232 226 = some (.iload_n 3) := by decide +kernel
theorem dx_232_227 : mj_at 232 227 = some (.iconst 1) := by decide +kernel
theorem dx_232_228 : mj_at 232 228 = some (.iadd) := by decide +kernel
theorem dx_232_229 : mj_at 232 229 = some (.iaload) := by decide +kernel
theorem dx_232_230 : mj_at 232 230 = some (.aload_n 0) := by decide +kernel
theorem dx_232_231 : mj_at 232 231 = some (.iload_n 3) := by decide +kernel
theorem dx_232_232 : mj_at 232 232 = some (.iconst 2) := by decide +kernel
theorem dx_232_233 : mj_at 232 233 = some (.iadd) := by decide +kernel
theorem dx_232_234 : mj_at 232 234 = some (.iaload) := by decide +kernel
theorem dx_232_235 : mj_at 232 235 = some (.aload_n 0) := by decide +kernel
theorem dx_232_236 : mj_at 232 236 = some (.iload_n 3) := by decide +kernel
theorem dx_232_237 : mj_at 232 237 = some (.iconst 3) := by decide +kernel
theorem dx_232_238 : mj_at 232 238 = some (.iadd) := by decide +kernel
theorem dx_232_239 : mj_at 232 239 = some (.iaload) := by decide +kernel
theorem dx_232_240 : mj_at 232 240 = some (.invokevirtual 22) := by decide +kernel
theorem dx_232_243 : mj_at 232 243 = some (.if_icmp .eq 862) := by decide +kernel
theorem dx_232_246 : mj_at 232 246 = some (.iconst 0) := by decide +kernel
theorem dx_232_247 : mj_at 232 247 = some (.ireturn) := by decide +kernel
theorem dx_232_248 : mj_at 232 248 = some (.aload_n 1) := by decide +kernel
theorem dx_232_249 : mj_at 232 249 = some (.aload_n 0) := by decide +kernel
theorem dx_232_250 : mj_at 232 250 = some (.iload_n 3) := by decide +kernel
theorem dx_232_251 : mj_at 232 251 = some (.iconst 1) := by decide +kernel
theorem dx_232_252 : mj_at 232 252 = some (.iadd) := by decide +kernel
theorem dx_232_253 : mj_at 232 253 = some (.iaload) := by decide +kernel
theorem dx_232_254 : mj_at 232 254 = some (.aload_n 0) := by decide +kernel
theorem dx_232_255 : mj_at 232 255 = some (.iload_n 3) := by decide +kernel
theorem dx_232_256 : mj_at 232 256 = some (.iconst 2) := by decide +kernel
theorem dx_232_257 : mj_at 232 257 = some (.iadd) := by decide +kernel
theorem dx_232_258 : mj_at 232 258 = some (.iaload) := by decide +kernel
theorem dx_232_259 : mj_at 232 259 = some (.aload_n 0) := by decide +kernel
theorem dx_232_260 : mj_at 232 260 = some (.iload_n 3) := by decide +kernel
theorem dx_232_261 : mj_at 232 261 = some (.iconst 3) := by decide +kernel
theorem dx_232_262 : mj_at 232 262 = some (.iadd) := by decide +kernel
theorem dx_232_263 : mj_at 232 263 = some (.iaload) := by decide +kernel
theorem dx_232_264 : mj_at 232 264 = some (.invokevirtual 23) := by decide +kernel
theorem dx_232_267 : mj_at 232 267 = some (.aload_n 2) := by decide +kernel
theorem dx_232_268 : mj_at 232 268 = some (.aload_n 0) := by decide +kernel
theorem dx_232_269 : mj_at 232 269 = some (.iload_n 3) := by decide +kernel
theorem dx_232_270 : mj_at 232 270 = some (.iconst 1) := by decide +kernel
theorem dx_232_271 : mj_at 232 271 = some (.iadd) := by decide +kernel
theorem dx_232_272 : mj_at 232 272 = some (.iaload) := by decide +kernel
theorem dx_232_273 : mj_at 232 273 = some (.aload_n 0) := by decide +kernel
theorem dx_232_274 : mj_at 232 274 = some (.iload_n 3) := by decide +kernel
theorem dx_232_275 : mj_at 232 275 = some (.iconst 2) := by decide +kernel
theorem dx_232_276 : mj_at 232 276 = some (.iadd) := by decide +kernel
theorem dx_232_277 : mj_at 232 277 = some (.iaload) := by decide +kernel
theorem dx_232_278 : mj_at 232 278 = some (.aload_n 0) := by decide +kernel
theorem dx_232_279 : mj_at 232 279 = some (.iload_n 3) := by decide +kernel
theorem dx_232_280 : mj_at 232 280 = some (.iconst 3) := by decide +kernel
theorem dx_232_281 : mj_at 232 281 = some (.iadd) := by decide +kernel
theorem dx_232_282 : mj_at 232 282 = some (.iaload) := by decide +kernel
theorem dx_232_283 : mj_at 232 283 = some (.invokevirtual 26) := by decide +kernel
theorem dx_232_286 : mj_at 232 286 = some (.if_icmp .eq 819) := by decide +kernel
theorem dx_232_289 : mj_at 232 289 = some (.iconst 0) := by decide +kernel
theorem dx_232_290 : mj_at 232 290 = some (.ireturn) := by decide +kernel
theorem dx_232_291 : mj_at 232 291 = some (.aload_n 1) := by decide +kernel
theorem dx_232_292 : mj_at 232 292 = some (.aload_n 0) := by decide +kernel
theorem dx_232_293 : mj_at 232 293 = some (.iload_n 3) := by decide +kernel
theorem dx_232_294 : mj_at 232 294 = some (.iconst 1) := by decide +kernel
theorem dx_232_295 : mj_at 232 295 = some (.iadd) := by decide +kernel
theorem dx_232_296 : mj_at 232 296 = some (.iaload) := by decide +kernel
theorem dx_232_297 : mj_at 232 297 = some (.aload_n 0) := by decide +kernel
theorem dx_232_298 : mj_at 232 298 = some (.iload_n 3) := by decide +kernel
theorem dx_232_299 : mj_at 232 299 = some (.iconst 2) := by decide +kernel
theorem dx_232_300 : mj_at 232 300 = some (.iadd) := by decide +kernel
theorem dx_232_301 : mj_at 232 301 = some (.iaload) := by decide +kernel
theorem dx_232_302 : mj_at 232 302 = some (.aload_n 0) := by decide +kernel
theorem dx_232_303 : mj_at 232 303 = some (.iload_n 3) := by decide +kernel
theorem dx_232_304 : mj_at 232 304 = some (.iconst 3) := by decide +kernel
theorem dx_232_305 : mj_at 232 305 = some (.iadd) := by decide +kernel
theorem dx_232_306 : mj_at 232 306 = some (.iaload) := by decide +kernel
theorem dx_232_307 : mj_at 232 307 = some (.aload_n 0) := by decide +kernel
theorem dx_232_308 : mj_at 232 308 = some (.iload_n 3) := by decide +kernel
theorem dx_232_309 : mj_at 232 309 = some (.iconst 4) := by decide +kernel
theorem dx_232_310 : mj_at 232 310 = some (.iadd) := by decide +kernel
theorem dx_232_311 : mj_at 232 311 = some (.iaload) := by decide +kernel
theorem dx_232_312 : mj_at 232 312 = some (.aload_n 0) := by decide +kernel
theorem dx_232_313 : mj_at 232 313 = some (.iload_n 3) := by decide +kernel
theorem dx_232_314 : mj_at 232 314 = some (.iconst 5) := by decide +kernel
theorem dx_232_315 : mj_at 232 315 = some (.iadd) := by decide +kernel
theorem dx_232_316 : mj_at 232 316 = some (.iaload) := by decide +kernel
theorem dx_232_317 : mj_at 232 317 = some (.invokevirtual 27) := by decide +kernel
theorem dx_232_320 : mj_at 232 320 = some (.aload_n 2) := by decide +kernel
theorem dx_232_321 : mj_at 232 321 = some (.aload_n 0) := by decide +kernel
theorem dx_232_322 : mj_at 232 322 = some (.iload_n 3) := by decide +kernel
theorem dx_232_323 : mj_at 232 323 = some (.iconst 1) := by decide +kernel
theorem dx_232_324 : mj_at 232 324 = some (.iadd) := by decide +kernel
theorem dx_232_325 : mj_at 232 325 = some (.iaload) := by decide +kernel
theorem dx_232_326 : mj_at 232 326 = some (.aload_n 0) := by decide +kernel
theorem dx_232_327 : mj_at 232 327 = some (.iload_n 3) := by decide +kernel
theorem dx_232_328 : mj_at 232 328 = some (.iconst 2) := by decide +kernel
theorem dx_232_329 : mj_at 232 329 = some (.iadd) := by decide +kernel
theorem dx_232_330 : mj_at 232 330 = some (.iaload) := by decide +kernel
theorem dx_232_331 : mj_at 232 331 = some (.aload_n 0) := by decide +kernel
theorem dx_232_332 : mj_at 232 332 = some (.iload_n 3) := by decide +kernel
theorem dx_232_333 : mj_at 232 333 = some (.iconst 3) := by decide +kernel
theorem dx_232_334 : mj_at 232 334 = some (.iadd) := by decide +kernel
theorem dx_232_335 : mj_at 232 335 = some (.iaload) := by decide +kernel
theorem dx_232_336 : mj_at 232 336 = some (.aload_n 0) := by decide +kernel
theorem dx_232_337 : mj_at 232 337 = some (.iload_n 3) := by decide +kernel
theorem dx_232_338 : mj_at 232 338 = some (.iconst 4) := by decide +kernel
theorem dx_232_339 : mj_at 232 339 = some (.iadd) := by decide +kernel
theorem dx_232_340 : mj_at 232 340 = some (.iaload) := by decide +kernel
theorem dx_232_341 : mj_at 232 341 = some (.aload_n 0) := by decide +kernel
theorem dx_232_342 : mj_at 232 342 = some (.iload_n 3) := by decide +kernel
theorem dx_232_343 : mj_at 232 343 = some (.iconst 5) := by decide +kernel
theorem dx_232_344 : mj_at 232 344 = some (.iadd) := by decide +kernel
theorem dx_232_345 : mj_at 232 345 = some (.iaload) := by decide +kernel
theorem dx_232_346 : mj_at 232 346 = some (.invokevirtual 31) := by decide +kernel
theorem dx_232_349 : mj_at 232 349 = some (.if_icmp .eq 756) := by decide +kernel
theorem dx_232_352 : mj_at 232 352 = some (.iconst 0) := by decide +kernel
theorem dx_232_353 : mj_at 232 353 = some (.ireturn) := by decide +kernel
theorem dx_232_354 : mj_at 232 354 = some (.aload_n 1) := by decide +kernel
theorem dx_232_355 : mj_at 232 355 = some (.aload_n 0) := by decide +kernel
theorem dx_232_356 : mj_at 232 356 = some (.iload_n 3) := by decide +kernel
theorem dx_232_357 : mj_at 232 357 = some (.iconst 1) := by decide +kernel
theorem dx_232_358 : mj_at 232 358 = some (.iadd) := by decide +kernel
theorem dx_232_359 : mj_at 232 359 = some (.iaload) := by decide +kernel
theorem dx_232_360 : mj_at 232 360 = some (.invokevirtual 32) := by decide +kernel
theorem dx_232_363 : mj_at 232 363 = some (.aload_n 2) := by decide +kernel
theorem dx_232_364 : mj_at 232 364 = some (.aload_n 0) := by decide +kernel
theorem dx_232_365 : mj_at 232 365 = some (.iload_n 3) := by decide +kernel
theorem dx_232_366 : mj_at 232 366 = some (.iconst 1) := by decide +kernel
theorem dx_232_367 : mj_at 232 367 = some (.iadd) := by decide +kernel
theorem dx_232_368 : mj_at 232 368 = some (.iaload) := by decide +kernel
theorem dx_232_369 : mj_at 232 369 = some (.invokevirtual 36) := by decide +kernel
theorem dx_232_372 : mj_at 232 372 = some (.if_icmp .eq 733) := by decide +kernel
theorem dx_232_375 : mj_at 232 375 = some (.iconst 0) := by decide +kernel
theorem dx_232_376 : mj_at 232 376 = some (.ireturn) := by decide +kernel
theorem dx_232_377 : mj_at 232 377 = some (.aload_n 1) := by decide +kernel
theorem dx_232_378 : mj_at 232 378 = some (.aload_n 0) := by decide +kernel
theorem dx_232_379 : mj_at 232 379 = some (.iload_n 3) := by decide +kernel
theorem dx_232_380 : mj_at 232 380 = some (.iconst 1) := by decide +kernel
theorem dx_232_381 : mj_at 232 381 = some (.iadd) := by decide +kernel
theorem dx_232_382 : mj_at 232 382 = some (.iaload) := by decide +kernel
theorem dx_232_383 : mj_at 232 383 = some (.invokevirtual 37) := by decide +kernel
theorem dx_232_386 : mj_at 232 386 = some (.aload_n 2) := by decide +kernel
theorem dx_232_387 : mj_at 232 387 = some (.aload_n 0) := by decide +kernel
theorem dx_232_388 : mj_at 232 388 = some (.iload_n 3) := by decide +kernel
theorem dx_232_389 : mj_at 232 389 = some (.iconst 1) := by decide +kernel
theorem dx_232_390 : mj_at 232 390 = some (.iadd) := by decide +kernel
theorem dx_232_391 : mj_at 232 391 = some (.iaload) := by decide +kernel
theorem dx_232_392 : mj_at 232 392 = some (.invokevirtual 40) := by decide +kernel
theorem dx_232_395 : mj_at 232 395 = some (.if_icmp .eq 710) := by decide +kernel
theorem dx_232_398 : mj_at 232 398 = some (.iconst 0) := by decide +kernel
theorem dx_232_399 : mj_at 232 399 = some (.ireturn) := by decide +kernel
theorem dx_232_400 : mj_at 232 400 = some (.aload_n 1) := by decide +kernel
theorem dx_232_401 : mj_at 232 401 = some (.aload_n 0) := by decide +kernel
theorem dx_232_402 : mj_at 232 402 = some (.iload_n 3) := by decide +kernel
theorem dx_232_403 : mj_at 232 403 = some (.iconst 1) := by decide +kernel
theorem dx_232_404 : mj_at 232 404 = some (.iadd) := by decide +kernel
theorem dx_232_405 : mj_at 232 405 = some (.iaload) := by decide +kernel
theorem dx_232_406 : mj_at 232 406 = some (.invokevirtual 41) := by decide +kernel
theorem dx_232_409 : mj_at 232 409 = some (.aload_n 2) := by decide +kernel
theorem dx_232_410 : mj_at 232 410 = some (.aload_n 0) := by decide +kernel
theorem dx_232_411 : mj_at 232 411 = some (.iload_n 3) := by decide +kernel
theorem dx_232_412 : mj_at 232 412 = some (.iconst 1) := by decide +kernel
theorem dx_232_413 : mj_at 232 413 = some (.iadd) := by decide +kernel
theorem dx_232_414 : mj_at 232 414 = some (.iaload) := by decide +kernel
theorem dx_232_415 : mj_at 232 415 = some (.invokevirtual 44) := by decide +kernel
theorem dx_232_418 : mj_at 232 418 = some (.if_icmp .eq 687) := by decide +kernel
theorem dx_232_421 : mj_at 232 421 = some (.iconst 0) := by decide +kernel
theorem dx_232_422 : mj_at 232 422 = some (.ireturn) := by decide +kernel
theorem dx_232_423 : mj_at 232 423 = some (.aload_n 1) := by decide +kernel
theorem dx_232_424 : mj_at 232 424 = some (.aload_n 0) := by decide +kernel
theorem dx_232_425 : mj_at 232 425 = some (.iload_n 3) := by decide +kernel
theorem dx_232_426 : mj_at 232 426 = some (.iconst 1) := by decide +kernel
theorem dx_232_427 : mj_at 232 427 = some (.iadd) := by decide +kernel
theorem dx_232_428 : mj_at 232 428 = some (.iaload) := by decide +kernel
theorem dx_232_429 : mj_at 232 429 = some (.invokevirtual 45) := by decide +kernel
theorem dx_232_432 : mj_at 232 432 = some (.aload_n 2) := by decide +kernel
theorem dx_232_433 : mj_at 232 433 = some (.aload_n 0) := by decide +kernel
theorem dx_232_434 : mj_at 232 434 = some (.iload_n 3) := by decide +kernel
theorem dx_232_435 : mj_at 232 435 = some (.iconst 1) := by decide +kernel
theorem dx_232_436 : mj_at 232 436 = some (.iadd) := by decide +kernel
theorem dx_232_437 : mj_at 232 437 = some (.iaload) := by decide +kernel
theorem dx_232_438 : mj_at 232 438 = some (.invokevirtual 48) := by decide +kernel
theorem dx_232_441 : mj_at 232 441 = some (.if_icmp .eq 664) := by decide +kernel
theorem dx_232_444 : mj_at 232 444 = some (.iconst 0) := by decide +kernel
theorem dx_232_445 : mj_at 232 445 = some (.ireturn) := by decide +kernel
theorem dx_232_446 : mj_at 232 446 = some (.aload_n 1) := by decide +kernel
theorem dx_232_447 : mj_at 232 447 = some (.aload_n 0) := by decide +kernel
theorem dx_232_448 : mj_at 232 448 = some (.iload_n 3) := by decide +kernel
theorem dx_232_449 : mj_at 232 449 = some (.iconst 1) := by decide +kernel
theorem dx_232_450 : mj_at 232 450 = some (.iadd) := by decide +kernel
theorem dx_232_451 : mj_at 232 451 = some (.iaload) := by decide +kernel
theorem dx_232_452 : mj_at 232 452 = some (.aload_n 0) := by decide +kernel
theorem dx_232_453 : mj_at 232 453 = some (.iload_n 3) := by decide +kernel
theorem dx_232_454 : mj_at 232 454 = some (.iconst 2) := by decide +kernel
theorem dx_232_455 : mj_at 232 455 = some (.iadd) := by decide +kernel
theorem dx_232_456 : mj_at 232 456 = some (.iaload) := by decide +kernel
theorem dx_232_457 : mj_at 232 457 = some (.invokevirtual 49) := by decide +kernel
theorem dx_232_460 : mj_at 232 460 = some (.aload_n 2) := by decide +kernel
theorem dx_232_461 : mj_at 232 461 = some (.aload_n 0) := by decide +kernel
theorem dx_232_462 : mj_at 232 462 = some (.iload_n 3) := by decide +kernel
theorem dx_232_463 : mj_at 232 463 = some (.iconst 1) := by decide +kernel
theorem dx_232_464 : mj_at 232 464 = some (.iadd) := by decide +kernel
theorem dx_232_465 : mj_at 232 465 = some (.iaload) := by decide +kernel
theorem dx_232_466 : mj_at 232 466 = some (.aload_n 0) := by decide +kernel
theorem dx_232_467 : mj_at 232 467 = some (.iload_n 3) := by decide +kernel
theorem dx_232_468 : mj_at 232 468 = some (.iconst 2) := by decide +kernel
theorem dx_232_469 : mj_at 232 469 = some (.iadd) := by decide +kernel
theorem dx_232_470 : mj_at 232 470 = some (.iaload) := by decide +kernel
theorem dx_232_471 : mj_at 232 471 = some (.invokevirtual 53) := by decide +kernel
theorem dx_232_474 : mj_at 232 474 = some (.if_icmp .eq 631) := by decide +kernel
theorem dx_232_477 : mj_at 232 477 = some (.iconst 0) := by decide +kernel
theorem dx_232_478 : mj_at 232 478 = some (.ireturn) := by decide +kernel
theorem dx_232_479 : mj_at 232 479 = some (.aload_n 1) := by decide +kernel
theorem dx_232_480 : mj_at 232 480 = some (.aload_n 0) := by decide +kernel
theorem dx_232_481 : mj_at 232 481 = some (.iload_n 3) := by decide +kernel
theorem dx_232_482 : mj_at 232 482 = some (.iconst 1) := by decide +kernel
theorem dx_232_483 : mj_at 232 483 = some (.iadd) := by decide +kernel
theorem dx_232_484 : mj_at 232 484 = some (.iaload) := by decide +kernel
theorem dx_232_485 : mj_at 232 485 = some (.aload_n 0) := by decide +kernel
theorem dx_232_486 : mj_at 232 486 = some (.iload_n 3) := by decide +kernel
theorem dx_232_487 : mj_at 232 487 = some (.iconst 2) := by decide +kernel
theorem dx_232_488 : mj_at 232 488 = some (.iadd) := by decide +kernel
theorem dx_232_489 : mj_at 232 489 = some (.iaload) := by decide +kernel
theorem dx_232_490 : mj_at 232 490 = some (.invokevirtual 54) := by decide +kernel
theorem dx_232_493 : mj_at 232 493 = some (.aload_n 2) := by decide +kernel
theorem dx_232_494 : mj_at 232 494 = some (.aload_n 0) := by decide +kernel
theorem dx_232_495 : mj_at 232 495 = some (.iload_n 3) := by decide +kernel
theorem dx_232_496 : mj_at 232 496 = some (.iconst 1) := by decide +kernel
theorem dx_232_497 : mj_at 232 497 = some (.iadd) := by decide +kernel
theorem dx_232_498 : mj_at 232 498 = some (.iaload) := by decide +kernel
theorem dx_232_499 : mj_at 232 499 = some (.aload_n 0) := by decide +kernel
theorem dx_232_500 : mj_at 232 500 = some (.iload_n 3) := by decide +kernel
theorem dx_232_501 : mj_at 232 501 = some (.iconst 2) := by decide +kernel
theorem dx_232_502 : mj_at 232 502 = some (.iadd) := by decide +kernel
theorem dx_232_503 : mj_at 232 503 = some (.iaload) := by decide +kernel
theorem dx_232_504 : mj_at 232 504 = some (.invokevirtual 57) := by decide +kernel
theorem dx_232_507 : mj_at 232 507 = some (.if_icmp .eq 598) := by decide +kernel
theorem dx_232_510 : mj_at 232 510 = some (.iconst 0) := by decide +kernel
theorem dx_232_511 : mj_at 232 511 = some (.ireturn) := by decide +kernel
theorem dx_232_512 : mj_at 232 512 = some (.aload_n 1) := by decide +kernel
theorem dx_232_513 : mj_at 232 513 = some (.aload_n 0) := by decide +kernel
theorem dx_232_514 : mj_at 232 514 = some (.iload_n 3) := by decide +kernel
theorem dx_232_515 : mj_at 232 515 = some (.iconst 1) := by decide +kernel
theorem dx_232_516 : mj_at 232 516 = some (.iadd) := by decide +kernel
theorem dx_232_517 : mj_at 232 517 = some (.iaload) := by decide +kernel
theorem dx_232_518 : mj_at 232 518 = some (.aload_n 0) := by decide +kernel
theorem dx_232_519 : mj_at 232 519 = some (.iload_n 3) := by decide +kernel
theorem dx_232_520 : mj_at 232 520 = some (.iconst 2) := by decide +kernel
theorem dx_232_521 : mj_at 232 521 = some (.iadd) := by decide +kernel
theorem dx_232_522 : mj_at 232 522 = some (.iaload) := by decide +kernel
theorem dx_232_523 : mj_at 232 523 = some (.invokevirtual 58) := by decide +kernel
theorem dx_232_526 : mj_at 232 526 = some (.aload_n 2) := by decide +kernel
theorem dx_232_527 : mj_at 232 527 = some (.aload_n 0) := by decide +kernel
theorem dx_232_528 : mj_at 232 528 = some (.iload_n 3) := by decide +kernel
theorem dx_232_529 : mj_at 232 529 = some (.iconst 1) := by decide +kernel
theorem dx_232_530 : mj_at 232 530 = some (.iadd) := by decide +kernel
theorem dx_232_531 : mj_at 232 531 = some (.iaload) := by decide +kernel
theorem dx_232_532 : mj_at 232 532 = some (.aload_n 0) := by decide +kernel
theorem dx_232_533 : mj_at 232 533 = some (.iload_n 3) := by decide +kernel
theorem dx_232_534 : mj_at 232 534 = some (.iconst 2) := by decide +kernel
theorem dx_232_535 : mj_at 232 535 = some (.iadd) := by decide +kernel
theorem dx_232_536 : mj_at 232 536 = some (.iaload) := by decide +kernel
theorem dx_232_537 : mj_at 232 537 = some (.invokevirtual 61) := by decide +kernel
theorem dx_232_540 : mj_at 232 540 = some (.if_icmp .eq 565) := by decide +kernel
theorem dx_232_543 : mj_at 232 543 = some (.iconst 0) := by decide +kernel
theorem dx_232_544 : mj_at 232 544 = some (.ireturn) := by decide +kernel
theorem dx_232_545 : mj_at 232 545 = some (.aload_n 1) := by decide +kernel
theorem dx_232_546 : mj_at 232 546 = some (.aload_n 0) := by decide +kernel
theorem dx_232_547 : mj_at 232 547 = some (.iload_n 3) := by decide +kernel
theorem dx_232_548 : mj_at 232 548 = some (.iconst 1) := by decide +kernel
theorem dx_232_549 : mj_at 232 549 = some (.iadd) := by decide +kernel
theorem dx_232_550 : mj_at 232 550 = some (.iaload) := by decide +kernel
theorem dx_232_551 : mj_at 232 551 = some (.invokevirtual 62) := by decide +kernel
theorem dx_232_554 : mj_at 232 554 = some (.aload_n 2) := by decide +kernel
theorem dx_232_555 : mj_at 232 555 = some (.aload_n 0) := by decide +kernel
theorem dx_232_556 : mj_at 232 556 = some (.iload_n 3) := by decide +kernel
theorem dx_232_557 : mj_at 232 557 = some (.iconst 1) := by decide +kernel
theorem dx_232_558 : mj_at 232 558 = some (.iadd) := by decide +kernel
theorem dx_232_559 : mj_at 232 559 = some (.iaload) := by decide +kernel
theorem dx_232_560 : mj_at 232 560 = some (.invokevirtual 65) := by decide +kernel
theorem dx_232_563 : mj_at 232 563 = some (.if_icmp .eq 542) := by decide +kernel
theorem dx_232_566 : mj_at 232 566 = some (.iconst 0) := by decide +kernel
theorem dx_232_567 : mj_at 232 567 = some (.ireturn) := by decide +kernel
theorem dx_232_568 : mj_at 232 568 = some (.aload_n 1) := by decide +kernel
theorem dx_232_569 : mj_at 232 569 = some (.aload_n 0) := by decide +kernel
theorem dx_232_570 : mj_at 232 570 = some (.iload_n 3) := by decide +kernel
theorem dx_232_571 : mj_at 232 571 = some (.iconst 1) := by decide +kernel
theorem dx_232_572 : mj_at 232 572 = some (.iadd) := by decide +kernel
theorem dx_232_573 : mj_at 232 573 = some (.iaload) := by decide +kernel
theorem dx_232_574 : mj_at 232 574 = some (.invokevirtual 66) := by decide +kernel
theorem dx_232_577 : mj_at 232 577 = some (.aload_n 2) := by decide +kernel
theorem dx_232_578 : mj_at 232 578 = some (.aload_n 0) := by decide +kernel
theorem dx_232_579 : mj_at 232 579 = some (.iload_n 3) := by decide +kernel
theorem dx_232_580 : mj_at 232 580 = some (.iconst 1) := by decide +kernel
theorem dx_232_581 : mj_at 232 581 = some (.iadd) := by decide +kernel
theorem dx_232_582 : mj_at 232 582 = some (.iaload) := by decide +kernel
theorem dx_232_583 : mj_at 232 583 = some (.invokevirtual 69) := by decide +kernel
theorem dx_232_586 : mj_at 232 586 = some (.if_icmp .eq 519) := by decide +kernel
theorem dx_232_589 : mj_at 232 589 = some (.iconst 0) := by decide +kernel
theorem dx_232_590 : mj_at 232 590 = some (.ireturn) := by decide +kernel
theorem dx_232_591 : mj_at 232 591 = some (.aload_n 1) := by decide +kernel
theorem dx_232_592 : mj_at 232 592 = some (.aload_n 0) := by decide +kernel
theorem dx_232_593 : mj_at 232 593 = some (.iload_n 3) := by decide +kernel
theorem dx_232_594 : mj_at 232 594 = some (.iconst 1) := by decide +kernel
theorem dx_232_595 : mj_at 232 595 = some (.iadd) := by decide +kernel
theorem dx_232_596 : mj_at 232 596 = some (.iaload) := by decide +kernel
theorem dx_232_597 : mj_at 232 597 = some (.aload_n 0) := by decide +kernel
theorem dx_232_598 : mj_at 232 598 = some (.iload_n 3) := by decide +kernel
theorem dx_232_599 : mj_at 232 599 = some (.iconst 2) := by decide +kernel
theorem dx_232_600 : mj_at 232 600 = some (.iadd) := by decide +kernel
theorem dx_232_601 : mj_at 232 601 = some (.iaload) := by decide +kernel
theorem dx_232_602 : mj_at 232 602 = some (.invokevirtual 70) := by decide +kernel
theorem dx_232_605 : mj_at 232 605 = some (.aload_n 2) := by decide +kernel
theorem dx_232_606 : mj_at 232 606 = some (.aload_n 0) := by decide +kernel
theorem dx_232_607 : mj_at 232 607 = some (.iload_n 3) := by decide +kernel
theorem dx_232_608 : mj_at 232 608 = some (.iconst 1) := by decide +kernel
theorem dx_232_609 : mj_at 232 609 = some (.iadd) := by decide +kernel
theorem dx_232_610 : mj_at 232 610 = some (.iaload) := by decide +kernel
theorem dx_232_611 : mj_at 232 611 = some (.aload_n 0) := by decide +kernel
theorem dx_232_612 : mj_at 232 612 = some (.iload_n 3) := by decide +kernel
theorem dx_232_613 : mj_at 232 613 = some (.iconst 2) := by decide +kernel
theorem dx_232_614 : mj_at 232 614 = some (.iadd) := by decide +kernel
theorem dx_232_615 : mj_at 232 615 = some (.iaload) := by decide +kernel
theorem dx_232_616 : mj_at 232 616 = some (.invokevirtual 73) := by decide +kernel
theorem dx_232_619 : mj_at 232 619 = some (.if_icmp .eq 486) := by decide +kernel
theorem dx_232_622 : mj_at 232 622 = some (.iconst 0) := by decide +kernel
theorem dx_232_623 : mj_at 232 623 = some (.ireturn) := by decide +kernel
theorem dx_232_624 : mj_at 232 624 = some (.aload_n 1) := by decide +kernel
theorem dx_232_625 : mj_at 232 625 = some (.aload_n 0) := by decide +kernel
theorem dx_232_626 : mj_at 232 626 = some (.iload_n 3) := by decide +kernel
theorem dx_232_627 : mj_at 232 627 = some (.iconst 1) := by decide +kernel
theorem dx_232_628 : mj_at 232 628 = some (.iadd) := by decide +kernel
theorem dx_232_629 : mj_at 232 629 = some (.iaload) := by decide +kernel
theorem dx_232_630 : mj_at 232 630 = some (.aload_n 0) := by decide +kernel
theorem dx_232_631 : mj_at 232 631 = some (.iload_n 3) := by decide +kernel
theorem dx_232_632 : mj_at 232 632 = some (.iconst 2) := by decide +kernel
theorem dx_232_633 : mj_at 232 633 = some (.iadd) := by decide +kernel
theorem dx_232_634 : mj_at 232 634 = some (.iaload) := by decide +kernel
theorem dx_232_635 : mj_at 232 635 = some (.invokevirtual 74) := by decide +kernel
theorem dx_232_638 : mj_at 232 638 = some (.aload_n 2) := by decide +kernel
theorem dx_232_639 : mj_at 232 639 = some (.aload_n 0) := by decide +kernel
theorem dx_232_640 : mj_at 232 640 = some (.iload_n 3) := by decide +kernel
theorem dx_232_641 : mj_at 232 641 = some (.iconst 1) := by decide +kernel
theorem dx_232_642 : mj_at 232 642 = some (.iadd) := by decide +kernel
theorem dx_232_643 : mj_at 232 643 = some (.iaload) := by decide +kernel
theorem dx_232_644 : mj_at 232 644 = some (.aload_n 0) := by decide +kernel
theorem dx_232_645 : mj_at 232 645 = some (.iload_n 3) := by decide +kernel
theorem dx_232_646 : mj_at 232 646 = some (.iconst 2) := by decide +kernel
theorem dx_232_647 : mj_at 232 647 = some (.iadd) := by decide +kernel
theorem dx_232_648 : mj_at 232 648 = some (.iaload) := by decide +kernel
theorem dx_232_649 : mj_at 232 649 = some (.invokevirtual 77) := by decide +kernel
theorem dx_232_652 : mj_at 232 652 = some (.if_icmp .eq 453) := by decide +kernel
theorem dx_232_655 : mj_at 232 655 = some (.iconst 0) := by decide +kernel
theorem dx_232_656 : mj_at 232 656 = some (.ireturn) := by decide +kernel
theorem dx_232_657 : mj_at 232 657 = some (.aload_n 1) := by decide +kernel
theorem dx_232_658 : mj_at 232 658 = some (.aload_n 0) := by decide +kernel
theorem dx_232_659 : mj_at 232 659 = some (.iload_n 3) := by decide +kernel
theorem dx_232_660 : mj_at 232 660 = some (.iconst 1) := by decide +kernel
theorem dx_232_661 : mj_at 232 661 = some (.iadd) := by decide +kernel
theorem dx_232_662 : mj_at 232 662 = some (.iaload) := by decide +kernel
theorem dx_232_663 : mj_at 232 663 = some (.aload_n 0) := by decide +kernel
theorem dx_232_664 : mj_at 232 664 = some (.iload_n 3) := by decide +kernel
theorem dx_232_665 : mj_at 232 665 = some (.iconst 2) := by decide +kernel
theorem dx_232_666 : mj_at 232 666 = some (.iadd) := by decide +kernel
theorem dx_232_667 : mj_at 232 667 = some (.iaload) := by decide +kernel
theorem dx_232_668 : mj_at 232 668 = some (.invokevirtual 78) := by decide +kernel
theorem dx_232_671 : mj_at 232 671 = some (.aload_n 2) := by decide +kernel
theorem dx_232_672 : mj_at 232 672 = some (.aload_n 0) := by decide +kernel
theorem dx_232_673 : mj_at 232 673 = some (.iload_n 3) := by decide +kernel
theorem dx_232_674 : mj_at 232 674 = some (.iconst 1) := by decide +kernel
theorem dx_232_675 : mj_at 232 675 = some (.iadd) := by decide +kernel
theorem dx_232_676 : mj_at 232 676 = some (.iaload) := by decide +kernel
theorem dx_232_677 : mj_at 232 677 = some (.aload_n 0) := by decide +kernel
theorem dx_232_678 : mj_at 232 678 = some (.iload_n 3) := by decide +kernel
theorem dx_232_679 : mj_at 232 679 = some (.iconst 2) := by decide +kernel
theorem dx_232_680 : mj_at 232 680 = some (.iadd) := by decide +kernel
theorem dx_232_681 : mj_at 232 681 = some (.iaload) := by decide +kernel
theorem dx_232_682 : mj_at 232 682 = some (.invokevirtual 81) := by decide +kernel
theorem dx_232_685 : mj_at 232 685 = some (.if_icmp .eq 420) := by decide +kernel
theorem dx_232_688 : mj_at 232 688 = some (.iconst 0) := by decide +kernel
theorem dx_232_689 : mj_at 232 689 = some (.ireturn) := by decide +kernel
theorem dx_232_690 : mj_at 232 690 = some (.aload_n 1) := by decide +kernel
theorem dx_232_691 : mj_at 232 691 = some (.aload_n 0) := by decide +kernel
theorem dx_232_692 : mj_at 232 692 = some (.iload_n 3) := by decide +kernel
theorem dx_232_693 : mj_at 232 693 = some (.iconst 1) := by decide +kernel
theorem dx_232_694 : mj_at 232 694 = some (.iadd) := by decide +kernel
theorem dx_232_695 : mj_at 232 695 = some (.iaload) := by decide +kernel
theorem dx_232_696 : mj_at 232 696 = some (.aload_n 0) := by decide +kernel
theorem dx_232_697 : mj_at 232 697 = some (.iload_n 3) := by decide +kernel
theorem dx_232_698 : mj_at 232 698 = some (.iconst 2) := by decide +kernel
theorem dx_232_699 : mj_at 232 699 = some (.iadd) := by decide +kernel
theorem dx_232_700 : mj_at 232 700 = some (.iaload) := by decide +kernel
theorem dx_232_701 : mj_at 232 701 = some (.aload_n 0) := by decide +kernel
theorem dx_232_702 : mj_at 232 702 = some (.iload_n 3) := by decide +kernel
theorem dx_232_703 : mj_at 232 703 = some (.iconst 3) := by decide +kernel
theorem dx_232_704 : mj_at 232 704 = some (.iadd) := by decide +kernel
theorem dx_232_705 : mj_at 232 705 = some (.iaload) := by decide +kernel
theorem dx_232_706 : mj_at 232 706 = some (.invokevirtual 82) := by decide +kernel
theorem dx_232_709 : mj_at 232 709 = some (.aload_n 2) := by decide +kernel
theorem dx_232_710 : mj_at 232 710 = some (.aload_n 0) := by decide +kernel
theorem dx_232_711 : mj_at 232 711 = some (.iload_n 3) := by decide +kernel
theorem dx_232_712 : mj_at 232 712 = some (.iconst 1) := by decide +kernel
theorem dx_232_713 : mj_at 232 713 = some (.iadd) := by decide +kernel
theorem dx_232_714 : mj_at 232 714 = some (.iaload) := by decide +kernel
theorem dx_232_715 : mj_at 232 715 = some (.aload_n 0) := by decide +kernel
theorem dx_232_716 : mj_at 232 716 = some (.iload_n 3) := by decide +kernel
theorem dx_232_717 : mj_at 232 717 = some (.iconst 2) := by decide +kernel
theorem dx_232_718 : mj_at 232 718 = some (.iadd) := by decide +kernel
theorem dx_232_719 : mj_at 232 719 = some (.iaload) := by decide +kernel
theorem dx_232_720 : mj_at 232 720 = some (.aload_n 0) := by decide +kernel
theorem dx_232_721 : mj_at 232 721 = some (.iload_n 3) := by decide +kernel
theorem dx_232_722 : mj_at 232 722 = some (.iconst 3) := by decide +kernel
theorem dx_232_723 : mj_at 232 723 = some (.iadd) := by decide +kernel
theorem dx_232_724 : mj_at 232 724 = some (.iaload) := by decide +kernel
theorem dx_232_725 : mj_at 232 725 = some (.invokevirtual 86) := by decide +kernel
theorem dx_232_728 : mj_at 232 728 = some (.if_icmp .eq 377) := by decide +kernel
theorem dx_232_731 : mj_at 232 731 = some (.iconst 0) := by decide +kernel
theorem dx_232_732 : mj_at 232 732 = some (.ireturn) := by decide +kernel
theorem dx_232_733 : mj_at 232 733 = some (.aload_n 1) := by decide +kernel
theorem dx_232_734 : mj_at 232 734 = some (.aload_n 0) := by decide +kernel
theorem dx_232_735 : mj_at 232 735 = some (.iload_n 3) := by decide +kernel
theorem dx_232_736 : mj_at 232 736 = some (.iconst 1) := by decide +kernel
theorem dx_232_737 : mj_at 232 737 = some (.iadd) := by decide +kernel
theorem dx_232_738 : mj_at 232 738 = some (.iaload) := by decide +kernel
theorem dx_232_739 : mj_at 232 739 = some (.aload_n 0) := by decide +kernel
theorem dx_232_740 : mj_at 232 740 = some (.iload_n 3) := by decide +kernel
theorem dx_232_741 : mj_at 232 741 = some (.iconst 2) := by decide +kernel
theorem dx_232_742 : mj_at 232 742 = some (.iadd) := by decide +kernel
theorem dx_232_743 : mj_at 232 743 = some (.iaload) := by decide +kernel
theorem dx_232_744 : mj_at 232 744 = some (.invokevirtual 87) := by decide +kernel
theorem dx_232_747 : mj_at 232 747 = some (.aload_n 2) := by decide +kernel
theorem dx_232_748 : mj_at 232 748 = some (.aload_n 0) := by decide +kernel
theorem dx_232_749 : mj_at 232 749 = some (.iload_n 3) := by decide +kernel
theorem dx_232_750 : mj_at 232 750 = some (.iconst 1) := by decide +kernel
theorem dx_232_751 : mj_at 232 751 = some (.iadd) := by decide +kernel
theorem dx_232_752 : mj_at 232 752 = some (.iaload) := by decide +kernel
theorem dx_232_753 : mj_at 232 753 = some (.aload_n 0) := by decide +kernel
theorem dx_232_754 : mj_at 232 754 = some (.iload_n 3) := by decide +kernel
theorem dx_232_755 : mj_at 232 755 = some (.iconst 2) := by decide +kernel
theorem dx_232_756 : mj_at 232 756 = some (.iadd) := by decide +kernel
theorem dx_232_757 : mj_at 232 757 = some (.iaload) := by decide +kernel
theorem dx_232_758 : mj_at 232 758 = some (.invokevirtual 90) := by decide +kernel
theorem dx_232_761 : mj_at 232 761 = some (.if_icmp .eq 344) := by decide +kernel
theorem dx_232_764 : mj_at 232 764 = some (.iconst 0) := by decide +kernel
theorem dx_232_765 : mj_at 232 765 = some (.ireturn) := by decide +kernel
theorem dx_232_766 : mj_at 232 766 = some (.aload_n 1) := by decide +kernel
theorem dx_232_767 : mj_at 232 767 = some (.aload_n 0) := by decide +kernel
theorem dx_232_768 : mj_at 232 768 = some (.iload_n 3) := by decide +kernel
theorem dx_232_769 : mj_at 232 769 = some (.iconst 1) := by decide +kernel
theorem dx_232_770 : mj_at 232 770 = some (.iadd) := by decide +kernel
theorem dx_232_771 : mj_at 232 771 = some (.iaload) := by decide +kernel
theorem dx_232_772 : mj_at 232 772 = some (.aload_n 0) := by decide +kernel
theorem dx_232_773 : mj_at 232 773 = some (.iload_n 3) := by decide +kernel
theorem dx_232_774 : mj_at 232 774 = some (.iconst 2) := by decide +kernel
theorem dx_232_775 : mj_at 232 775 = some (.iadd) := by decide +kernel
theorem dx_232_776 : mj_at 232 776 = some (.iaload) := by decide +kernel
theorem dx_232_777 : mj_at 232 777 = some (.invokevirtual 91) := by decide +kernel
theorem dx_232_780 : mj_at 232 780 = some (.aload_n 2) := by decide +kernel
theorem dx_232_781 : mj_at 232 781 = some (.aload_n 0) := by decide +kernel
theorem dx_232_782 : mj_at 232 782 = some (.iload_n 3) := by decide +kernel
theorem dx_232_783 : mj_at 232 783 = some (.iconst 1) := by decide +kernel
theorem dx_232_784 : mj_at 232 784 = some (.iadd) := by decide +kernel
theorem dx_232_785 : mj_at 232 785 = some (.iaload) := by decide +kernel
theorem dx_232_786 : mj_at 232 786 = some (.aload_n 0) := by decide +kernel
theorem dx_232_787 : mj_at 232 787 = some (.iload_n 3) := by decide +kernel
theorem dx_232_788 : mj_at 232 788 = some (.iconst 2) := by decide +kernel
theorem dx_232_789 : mj_at 232 789 = some (.iadd) := by decide +kernel
theorem dx_232_790 : mj_at 232 790 = some (.iaload) := by decide +kernel
theorem dx_232_791 : mj_at 232 791 = some (.invokevirtual 94) := by decide +kernel
theorem dx_232_794 : mj_at 232 794 = some (.if_icmp .eq 311) := by decide +kernel
theorem dx_232_797 : mj_at 232 797 = some (.iconst 0) := by decide +kernel
theorem dx_232_798 : mj_at 232 798 = some (.ireturn) := by decide +kernel
theorem dx_232_799 : mj_at 232 799 = some (.aload_n 1) := by decide +kernel
theorem dx_232_800 : mj_at 232 800 = some (.aload_n 0) := by decide +kernel
theorem dx_232_801 : mj_at 232 801 = some (.iload_n 3) := by decide +kernel
theorem dx_232_802 : mj_at 232 802 = some (.iconst 1) := by decide +kernel
theorem dx_232_803 : mj_at 232 803 = some (.iadd) := by decide +kernel
theorem dx_232_804 : mj_at 232 804 = some (.iaload) := by decide +kernel
theorem dx_232_805 : mj_at 232 805 = some (.aload_n 0) := by decide +kernel
theorem dx_232_806 : mj_at 232 806 = some (.iload_n 3) := by decide +kernel
theorem dx_232_807 : mj_at 232 807 = some (.iconst 2) := by decide +kernel
theorem dx_232_808 : mj_at 232 808 = some (.iadd) := by decide +kernel
theorem dx_232_809 : mj_at 232 809 = some (.iaload) := by decide +kernel
theorem dx_232_810 : mj_at 232 810 = some (.invokevirtual 95) := by decide +kernel
theorem dx_232_813 : mj_at 232 813 = some (.aload_n 2) := by decide +kernel
theorem dx_232_814 : mj_at 232 814 = some (.aload_n 0) := by decide +kernel
theorem dx_232_815 : mj_at 232 815 = some (.iload_n 3) := by decide +kernel
theorem dx_232_816 : mj_at 232 816 = some (.iconst 1) := by decide +kernel
theorem dx_232_817 : mj_at 232 817 = some (.iadd) := by decide +kernel
theorem dx_232_818 : mj_at 232 818 = some (.iaload) := by decide +kernel
theorem dx_232_819 : mj_at 232 819 = some (.aload_n 0) := by decide +kernel
theorem dx_232_820 : mj_at 232 820 = some (.iload_n 3) := by decide +kernel
theorem dx_232_821 : mj_at 232 821 = some (.iconst 2) := by decide +kernel
theorem dx_232_822 : mj_at 232 822 = some (.iadd) := by decide +kernel
theorem dx_232_823 : mj_at 232 823 = some (.iaload) := by decide +kernel
theorem dx_232_824 : mj_at 232 824 = some (.invokevirtual 98) := by decide +kernel
theorem dx_232_827 : mj_at 232 827 = some (.if_icmp .eq 278) := by decide +kernel
theorem dx_232_830 : mj_at 232 830 = some (.iconst 0) := by decide +kernel
theorem dx_232_831 : mj_at 232 831 = some (.ireturn) := by decide +kernel
theorem dx_232_832 : mj_at 232 832 = some (.aload_n 1) := by decide +kernel
theorem dx_232_833 : mj_at 232 833 = some (.aload_n 0) := by decide +kernel
theorem dx_232_834 : mj_at 232 834 = some (.iload_n 3) := by decide +kernel
theorem dx_232_835 : mj_at 232 835 = some (.iconst 1) := by decide +kernel
theorem dx_232_836 : mj_at 232 836 = some (.iadd) := by decide +kernel
theorem dx_232_837 : mj_at 232 837 = some (.iaload) := by decide +kernel
theorem dx_232_838 : mj_at 232 838 = some (.aload_n 0) := by decide +kernel
theorem dx_232_839 : mj_at 232 839 = some (.iload_n 3) := by decide +kernel
theorem dx_232_840 : mj_at 232 840 = some (.iconst 2) := by decide +kernel
theorem dx_232_841 : mj_at 232 841 = some (.iadd) := by decide +kernel
theorem dx_232_842 : mj_at 232 842 = some (.iaload) := by decide +kernel
theorem dx_232_843 : mj_at 232 843 = some (.invokevirtual 99) := by decide +kernel
theorem dx_232_846 : mj_at 232 846 = some (.aload_n 2) := by decide +kernel
theorem dx_232_847 : mj_at 232 847 = some (.aload_n 0) := by decide +kernel
theorem dx_232_848 : mj_at 232 848 = some (.iload_n 3) := by decide +kernel
theorem dx_232_849 : mj_at 232 849 = some (.iconst 1) := by decide +kernel
theorem dx_232_850 : mj_at 232 850 = some (.iadd) := by decide +kernel
theorem dx_232_851 : mj_at 232 851 = some (.iaload) := by decide +kernel
theorem dx_232_852 : mj_at 232 852 = some (.aload_n 0) := by decide +kernel
theorem dx_232_853 : mj_at 232 853 = some (.iload_n 3) := by decide +kernel
theorem dx_232_854 : mj_at 232 854 = some (.iconst 2) := by decide +kernel
theorem dx_232_855 : mj_at 232 855 = some (.iadd) := by decide +kernel
theorem dx_232_856 : mj_at 232 856 = some (.iaload) := by decide +kernel
theorem dx_232_857 : mj_at 232 857 = some (.invokevirtual 102) := by decide +kernel
theorem dx_232_860 : mj_at 232 860 = some (.if_icmp .eq 245) := by decide +kernel
theorem dx_232_863 : mj_at 232 863 = some (.iconst 0) := by decide +kernel
theorem dx_232_864 : mj_at 232 864 = some (.ireturn) := by decide +kernel
theorem dx_232_865 : mj_at 232 865 = some (.aload_n 1) := by decide +kernel
theorem dx_232_866 : mj_at 232 866 = some (.invokevirtual 103) := by decide +kernel
theorem dx_232_869 : mj_at 232 869 = some (.aload_n 2) := by decide +kernel
theorem dx_232_870 : mj_at 232 870 = some (.invokevirtual 107) := by decide +kernel
theorem dx_232_873 : mj_at 232 873 = some (.if_icmp .eq 232) := by decide +kernel
theorem dx_232_876 : mj_at 232 876 = some (.iconst 0) := by decide +kernel
theorem dx_232_877 : mj_at 232 877 = some (.ireturn) := by decide +kernel
theorem dx_232_878 : mj_at 232 878 = some (.aload_n 1) := by decide +kernel
theorem dx_232_879 : mj_at 232 879 = some (.aload_n 0) := by decide +kernel
theorem dx_232_880 : mj_at 232 880 = some (.iload_n 3) := by decide +kernel
theorem dx_232_881 : mj_at 232 881 = some (.iconst 1) := by decide +kernel
theorem dx_232_882 : mj_at 232 882 = some (.iadd) := by decide +kernel
theorem dx_232_883 : mj_at 232 883 = some (.iaload) := by decide +kernel
theorem dx_232_884 : mj_at 232 884 = some (.aload_n 0) := by decide +kernel
theorem dx_232_885 : mj_at 232 885 = some (.iload_n 3) := by decide +kernel
theorem dx_232_886 : mj_at 232 886 = some (.iconst 2) := by decide +kernel
theorem dx_232_887 : mj_at 232 887 = some (.iadd) := by decide +kernel
theorem dx_232_888 : mj_at 232 888 = some (.iaload) := by decide +kernel
theorem dx_232_889 : mj_at 232 889 = some (.invokevirtual 108) := by decide +kernel
theorem dx_232_892 : mj_at 232 892 = some (.aload_n 2) := by decide +kernel
theorem dx_232_893 : mj_at 232 893 = some (.aload_n 0) := by decide +kernel
theorem dx_232_894 : mj_at 232 894 = some (.iload_n 3) := by decide +kernel
theorem dx_232_895 : mj_at 232 895 = some (.iconst 1) := by decide +kernel
theorem dx_232_896 : mj_at 232 896 = some (.iadd) := by decide +kernel
theorem dx_232_897 : mj_at 232 897 = some (.iaload) := by decide +kernel
theorem dx_232_898 : mj_at 232 898 = some (.aload_n 0) := by decide +kernel
theorem dx_232_899 : mj_at 232 899 = some (.iload_n 3) := by decide +kernel
theorem dx_232_900 : mj_at 232 900 = some (.iconst 2) := by decide +kernel
theorem dx_232_901 : mj_at 232 901 = some (.iadd) := by decide +kernel
theorem dx_232_902 : mj_at 232 902 = some (.iaload) := by decide +kernel
theorem dx_232_903 : mj_at 232 903 = some (.invokevirtual 111) := by decide +kernel
theorem dx_232_906 : mj_at 232 906 = some (.if_icmp .eq 199) := by decide +kernel
theorem dx_232_909 : mj_at 232 909 = some (.iconst 0) := by decide +kernel
theorem dx_232_910 : mj_at 232 910 = some (.ireturn) := by decide +kernel
theorem dx_232_911 : mj_at 232 911 = some (.aload_n 1) := by decide +kernel
theorem dx_232_912 : mj_at 232 912 = some (.aload_n 0) := by decide +kernel
theorem dx_232_913 : mj_at 232 913 = some (.iload_n 3) := by decide +kernel
theorem dx_232_914 : mj_at 232 914 = some (.iconst 1) := by decide +kernel
theorem dx_232_915 : mj_at 232 915 = some (.iadd) := by decide +kernel
theorem dx_232_916 : mj_at 232 916 = some (.iaload) := by decide +kernel
theorem dx_232_917 : mj_at 232 917 = some (.aload_n 0) := by decide +kernel
theorem dx_232_918 : mj_at 232 918 = some (.iload_n 3) := by decide +kernel
theorem dx_232_919 : mj_at 232 919 = some (.iconst 2) := by decide +kernel
theorem dx_232_920 : mj_at 232 920 = some (.iadd) := by decide +kernel
theorem dx_232_921 : mj_at 232 921 = some (.iaload) := by decide +kernel
theorem dx_232_922 : mj_at 232 922 = some (.invokevirtual 112) := by decide +kernel
theorem dx_232_925 : mj_at 232 925 = some (.aload_n 2) := by decide +kernel
theorem dx_232_926 : mj_at 232 926 = some (.aload_n 0) := by decide +kernel
theorem dx_232_927 : mj_at 232 927 = some (.iload_n 3) := by decide +kernel
theorem dx_232_928 : mj_at 232 928 = some (.iconst 1) := by decide +kernel
theorem dx_232_929 : mj_at 232 929 = some (.iadd) := by decide +kernel
theorem dx_232_930 : mj_at 232 930 = some (.iaload) := by decide +kernel
theorem dx_232_931 : mj_at 232 931 = some (.aload_n 0) := by decide +kernel
theorem dx_232_932 : mj_at 232 932 = some (.iload_n 3) := by decide +kernel
theorem dx_232_933 : mj_at 232 933 = some (.iconst 2) := by decide +kernel
theorem dx_232_934 : mj_at 232 934 = some (.iadd) := by decide +kernel
theorem dx_232_935 : mj_at 232 935 = some (.iaload) := by decide +kernel
theorem dx_232_936 : mj_at 232 936 = some (.invokevirtual 115) := by decide +kernel
theorem dx_232_939 : mj_at 232 939 = some (.if_icmp .eq 166) := by decide +kernel
theorem dx_232_942 : mj_at 232 942 = some (.iconst 0) := by decide +kernel
theorem dx_232_943 : mj_at 232 943 = some (.ireturn) := by decide +kernel
theorem dx_232_944 : mj_at 232 944 = some (.aload_n 1) := by decide +kernel
theorem dx_232_945 : mj_at 232 945 = some (.aload_n 0) := by decide +kernel
theorem dx_232_946 : mj_at 232 946 = some (.iload_n 3) := by decide +kernel
theorem dx_232_947 : mj_at 232 947 = some (.iconst 1) := by decide +kernel
theorem dx_232_948 : mj_at 232 948 = some (.iadd) := by decide +kernel
theorem dx_232_949 : mj_at 232 949 = some (.iaload) := by decide +kernel
theorem dx_232_950 : mj_at 232 950 = some (.aload_n 0) := by decide +kernel
theorem dx_232_951 : mj_at 232 951 = some (.iload_n 3) := by decide +kernel
theorem dx_232_952 : mj_at 232 952 = some (.iconst 2) := by decide +kernel
theorem dx_232_953 : mj_at 232 953 = some (.iadd) := by decide +kernel
theorem dx_232_954 : mj_at 232 954 = some (.iaload) := by decide +kernel
theorem dx_232_955 : mj_at 232 955 = some (.invokevirtual 116) := by decide +kernel
theorem dx_232_958 : mj_at 232 958 = some (.aload_n 2) := by decide +kernel
theorem dx_232_959 : mj_at 232 959 = some (.aload_n 0) := by decide +kernel
theorem dx_232_960 : mj_at 232 960 = some (.iload_n 3) := by decide +kernel
theorem dx_232_961 : mj_at 232 961 = some (.iconst 1) := by decide +kernel
theorem dx_232_962 : mj_at 232 962 = some (.iadd) := by decide +kernel
theorem dx_232_963 : mj_at 232 963 = some (.iaload) := by decide +kernel
theorem dx_232_964 : mj_at 232 964 = some (.aload_n 0) := by decide +kernel
theorem dx_232_965 : mj_at 232 965 = some (.iload_n 3) := by decide +kernel
theorem dx_232_966 : mj_at 232 966 = some (.iconst 2) := by decide +kernel
theorem dx_232_967 : mj_at 232 967 = some (.iadd) := by decide +kernel
theorem dx_232_968 : mj_at 232 968 = some (.iaload) := by decide +kernel
theorem dx_232_969 : mj_at 232 969 = some (.invokevirtual 119) := by decide +kernel
theorem dx_232_972 : mj_at 232 972 = some (.if_icmp .eq 133) := by decide +kernel
theorem dx_232_975 : mj_at 232 975 = some (.iconst 0) := by decide +kernel
theorem dx_232_976 : mj_at 232 976 = some (.ireturn) := by decide +kernel
theorem dx_232_977 : mj_at 232 977 = some (.aload_n 1) := by decide +kernel
theorem dx_232_978 : mj_at 232 978 = some (.aload_n 0) := by decide +kernel
theorem dx_232_979 : mj_at 232 979 = some (.iload_n 3) := by decide +kernel
theorem dx_232_980 : mj_at 232 980 = some (.iconst 1) := by decide +kernel
theorem dx_232_981 : mj_at 232 981 = some (.iadd) := by decide +kernel
theorem dx_232_982 : mj_at 232 982 = some (.iaload) := by decide +kernel
theorem dx_232_983 : mj_at 232 983 = some (.aload_n 0) := by decide +kernel
theorem dx_232_984 : mj_at 232 984 = some (.iload_n 3) := by decide +kernel
theorem dx_232_985 : mj_at 232 985 = some (.iconst 2) := by decide +kernel
theorem dx_232_986 : mj_at 232 986 = some (.iadd) := by decide +kernel
theorem dx_232_987 : mj_at 232 987 = some (.iaload) := by decide +kernel
theorem dx_232_988 : mj_at 232 988 = some (.invokevirtual 120) := by decide +kernel
theorem dx_232_991 : mj_at 232 991 = some (.aload_n 2) := by decide +kernel
theorem dx_232_992 : mj_at 232 992 = some (.aload_n 0) := by decide +kernel
theorem dx_232_993 : mj_at 232 993 = some (.iload_n 3) := by decide +kernel
theorem dx_232_994 : mj_at 232 994 = some (.iconst 1) := by decide +kernel
theorem dx_232_995 : mj_at 232 995 = some (.iadd) := by decide +kernel
theorem dx_232_996 : mj_at 232 996 = some (.iaload) := by decide +kernel
theorem dx_232_997 : mj_at 232 997 = some (.aload_n 0) := by decide +kernel
theorem dx_232_998 : mj_at 232 998 = some (.iload_n 3) := by decide +kernel
theorem dx_232_999 : mj_at 232 999 = some (.iconst 2) := by decide +kernel
theorem dx_232_1000 : mj_at 232 1000 = some (.iadd) := by decide +kernel
theorem dx_232_1001 : mj_at 232 1001 = some (.iaload) := by decide +kernel
theorem dx_232_1002 : mj_at 232 1002 = some (.invokevirtual 123) := by decide +kernel
theorem dx_232_1005 : mj_at 232 1005 = some (.if_icmp .eq 100) := by decide +kernel
theorem dx_232_1008 : mj_at 232 1008 = some (.iconst 0) := by decide +kernel
theorem dx_232_1009 : mj_at 232 1009 = some (.ireturn) := by decide +kernel
theorem dx_232_1010 : mj_at 232 1010 = some (.aload_n 1) := by decide +kernel
theorem dx_232_1011 : mj_at 232 1011 = some (.aload_n 0) := by decide +kernel
theorem dx_232_1012 : mj_at 232 1012 = some (.iload_n 3) := by decide +kernel
theorem dx_232_1013 : mj_at 232 1013 = some (.iconst 1) := by decide +kernel
theorem dx_232_1014 : mj_at 232 1014 = some (.iadd) := by decide +kernel
theorem dx_232_1015 : mj_at 232 1015 = some (.iaload) := by decide +kernel
theorem dx_232_1016 : mj_at 232 1016 = some (.invokevirtual 124) := by decide +kernel
theorem dx_232_1019 : mj_at 232 1019 = some (.aload_n 2) := by decide +kernel
theorem dx_232_1020 : mj_at 232 1020 = some (.aload_n 0) := by decide +kernel
theorem dx_232_1021 : mj_at 232 1021 = some (.iload_n 3) := by decide +kernel
theorem dx_232_1022 : mj_at 232 1022 = some (.iconst 1) := by decide +kernel
theorem dx_232_1023 : mj_at 232 1023 = some (.iadd) := by decide +kernel
theorem dx_232_1024 : mj_at 232 1024 = some (.iaload) := by decide +kernel
theorem dx_232_1025 : mj_at 232 1025 = some (.invokevirtual 128) := by decide +kernel
theorem dx_232_1028 : mj_at 232 1028 = some (.if_icmp .eq 77) := by decide +kernel
theorem dx_232_1031 : mj_at 232 1031 = some (.iconst 0) := by decide +kernel
theorem dx_232_1032 : mj_at 232 1032 = some (.ireturn) := by decide +kernel
theorem dx_232_1033 : mj_at 232 1033 = some (.aload_n 1) := by decide +kernel
theorem dx_232_1034 : mj_at 232 1034 = some (.invokevirtual 129) := by decide +kernel
theorem dx_232_1037 : mj_at 232 1037 = some (.aload_n 2) := by decide +kernel
theorem dx_232_1038 : mj_at 232 1038 = some (.invokevirtual 132) := by decide +kernel
theorem dx_232_1041 : mj_at 232 1041 = some (.if_icmp .eq 64) := by decide +kernel
theorem dx_232_1044 : mj_at 232 1044 = some (.iconst 0) := by decide +kernel
theorem dx_232_1045 : mj_at 232 1045 = some (.ireturn) := by decide +kernel
theorem dx_232_1046 : mj_at 232 1046 = some (.aload_n 1) := by decide +kernel
theorem dx_232_1047 : mj_at 232 1047 = some (.invokevirtual 133) := by decide +kernel
theorem dx_232_1050 : mj_at 232 1050 = some (.aload_n 2) := by decide +kernel
theorem dx_232_1051 : mj_at 232 1051 = some (.invokevirtual 137) := by decide +kernel
theorem dx_232_1054 : mj_at 232 1054 = some (.if_icmp .eq 51) := by decide +kernel
theorem dx_232_1057 : mj_at 232 1057 = some (.iconst 0) := by decide +kernel
theorem dx_232_1058 : mj_at 232 1058 = some (.ireturn) := by decide +kernel
theorem dx_232_1059 : mj_at 232 1059 = some (.aload_n 1) := by decide +kernel
theorem dx_232_1060 : mj_at 232 1060 = some (.aload_n 0) := by decide +kernel
theorem dx_232_1061 : mj_at 232 1061 = some (.iload_n 3) := by decide +kernel
theorem dx_232_1062 : mj_at 232 1062 = some (.iconst 1) := by decide +kernel
theorem dx_232_1063 : mj_at 232 1063 = some (.iadd) := by decide +kernel
theorem dx_232_1064 : mj_at 232 1064 = some (.iaload) := by decide +kernel
theorem dx_232_1065 : mj_at 232 1065 = some (.invokevirtual 138) := by decide +kernel
theorem dx_232_1068 : mj_at 232 1068 = some (.aload_n 2) := by decide +kernel
theorem dx_232_1069 : mj_at 232 1069 = some (.aload_n 0) := by decide +kernel
theorem dx_232_1070 : mj_at 232 1070 = some (.iload_n 3) := by decide +kernel
theorem dx_232_1071 : mj_at 232 1071 = some (.iconst 1) := by decide +kernel
theorem dx_232_1072 : mj_at 232 1072 = some (.iadd) := by decide +kernel
theorem dx_232_1073 : mj_at 232 1073 = some (.iaload) := by decide +kernel
theorem dx_232_1074 : mj_at 232 1074 = some (.invokevirtual 141) := by decide +kernel
theorem dx_232_1077 : mj_at 232 1077 = some (.if_icmp .eq 28) := by decide +kernel
theorem dx_232_1080 : mj_at 232 1080 = some (.iconst 0) := by decide +kernel
theorem dx_232_1081 : mj_at 232 1081 = some (.ireturn) := by decide +kernel
theorem dx_232_1082 : mj_at 232 1082 = some (.aload_n 1) := by decide +kernel
theorem dx_232_1083 : mj_at 232 1083 = some (.aload_n 0) := by decide +kernel
theorem dx_232_1084 : mj_at 232 1084 = some (.iload_n 3) := by decide +kernel
theorem dx_232_1085 : mj_at 232 1085 = some (.iconst 1) := by decide +kernel
theorem dx_232_1086 : mj_at 232 1086 = some (.iadd) := by decide +kernel
theorem dx_232_1087 : mj_at 232 1087 = some (.iaload) := by decide +kernel
theorem dx_232_1088 : mj_at 232 1088 = some (.invokevirtual 142) := by decide +kernel
theorem dx_232_1091 : mj_at 232 1091 = some (.aload_n 2) := by decide +kernel
theorem dx_232_1092 : mj_at 232 1092 = some (.aload_n 0) := by decide +kernel
theorem dx_232_1093 : mj_at 232 1093 = some (.iload_n 3) := by decide +kernel
theorem dx_232_1094 : mj_at 232 1094 = some (.iconst 1) := by decide +kernel
theorem dx_232_1095 : mj_at 232 1095 = some (.iadd) := by decide +kernel
theorem dx_232_1096 : mj_at 232 1096 = some (.iaload) := by decide +kernel
theorem dx_232_1097 : mj_at 232 1097 = some (.invokevirtual 145) := by decide +kernel
theorem dx_232_1100 : mj_at 232 1100 = some (.if_icmp .eq 5) := by decide +kernel
theorem dx_232_1103 : mj_at 232 1103 = some (.iconst 0) := by decide +kernel
theorem dx_232_1104 : mj_at 232 1104 = some (.ireturn) := by decide +kernel
theorem dx_232_1105 : mj_at 232 1105 = some (.iinc 3 6) := by decide +kernel
theorem dx_232_1108 : mj_at 232 1108 = some (.goto (-1090)) := by decide +kernel
theorem dx_232_1111 : mj_at 232 1111 = some (.iconst 1) := by decide +kernel
theorem dx_232_1112 : mj_at 232 1112 = some (.ireturn) := by decide +kernel
set_option maxRecDepth 10000 in
theorem b_L_law_18 {sl d : Nat} {M : mj_M} {y3 : Int32}  : mj_E sl (d + 1) 232 18 [.ref 72, .ref 0, .ref 45, .int y3] [] M = if y3 ≤ ((nI sl) - 6) then (if mj_inB y3 sl = true then (if (M 72 (y3 : Int32).toNatClampNeg) &&& 31 = 0 then (if mj_inB (y3 + 1) sl = true then (if mj_inB (y3 + 2) sl = true then ((mj_C sl d 78 [.ref 0, .int (M 72 (y3 + 1 : Int32).toNatClampNeg), .int (M 72 (y3 + 2 : Int32).toNatClampNeg)] M).bind (fun q1 => if mj_inB (y3 + 1) sl = true then (if mj_inB (y3 + 2) sl = true then ((mj_C sl d 141 [.ref 45, .int (q1.2 72 (y3 + 1 : Int32).toNatClampNeg), .int (q1.2 72 (y3 + 2 : Int32).toNatClampNeg)] q1.2).bind (fun q2 => if q1.1 = q2.1 then (mj_E sl (d + 1) 232 18 [.ref 72, .ref 0, .ref 45, .int (y3 + 6)] [] q2.2) else (some ((0 : Int32), q2.2)))) else none) else none)) else none) else none) else (if (M 72 (y3 : Int32).toNatClampNeg) &&& 31 = 1 then (if mj_inB (y3 + 1) sl = true then (if mj_inB (y3 + 2) sl = true then (if mj_inB (y3 + 3) sl = true then ((mj_C sl d 79 [.ref 0, .int (M 72 (y3 + 1 : Int32).toNatClampNeg), .int (M 72 (y3 + 2 : Int32).toNatClampNeg), .int (M 72 (y3 + 3 : Int32).toNatClampNeg)] M).bind (fun q3 => if mj_inB (y3 + 1) sl = true then (if mj_inB (y3 + 2) sl = true then (if mj_inB (y3 + 3) sl = true then ((mj_C sl d 142 [.ref 45, .int (q3.2 72 (y3 + 1 : Int32).toNatClampNeg), .int (q3.2 72 (y3 + 2 : Int32).toNatClampNeg), .int (q3.2 72 (y3 + 3 : Int32).toNatClampNeg)] q3.2).bind (fun q4 => if q3.1 = q4.1 then (mj_E sl (d + 1) 232 18 [.ref 72, .ref 0, .ref 45, .int (y3 + 6)] [] q4.2) else (some ((0 : Int32), q4.2)))) else none) else none) else none)) else none) else none) else none) else (if (M 72 (y3 : Int32).toNatClampNeg) &&& 31 = 2 then (if mj_inB (y3 + 1) sl = true then (if mj_inB (y3 + 2) sl = true then (if mj_inB (y3 + 3) sl = true then ((mj_C sl d 80 [.ref 0, .int (M 72 (y3 + 1 : Int32).toNatClampNeg), .int (M 72 (y3 + 2 : Int32).toNatClampNeg), .int (M 72 (y3 + 3 : Int32).toNatClampNeg)] M).bind (fun q5 => if mj_inB (y3 + 1) sl = true then (if mj_inB (y3 + 2) sl = true then (if mj_inB (y3 + 3) sl = true then ((mj_C sl d 143 [.ref 45, .int (q5.2 72 (y3 + 1 : Int32).toNatClampNeg), .int (q5.2 72 (y3 + 2 : Int32).toNatClampNeg), .int (q5.2 72 (y3 + 3 : Int32).toNatClampNeg)] q5.2).bind (fun q6 => if q5.1 = q6.1 then (mj_E sl (d + 1) 232 18 [.ref 72, .ref 0, .ref 45, .int (y3 + 6)] [] q6.2) else (some ((0 : Int32), q6.2)))) else none) else none) else none)) else none) else none) else none) else (if (M 72 (y3 : Int32).toNatClampNeg) &&& 31 = 3 then (if mj_inB (y3 + 1) sl = true then (if mj_inB (y3 + 2) sl = true then (if mj_inB (y3 + 3) sl = true then (if mj_inB (y3 + 4) sl = true then (if mj_inB (y3 + 5) sl = true then ((mj_C sl d 81 [.ref 0, .int (M 72 (y3 + 1 : Int32).toNatClampNeg), .int (M 72 (y3 + 2 : Int32).toNatClampNeg), .int (M 72 (y3 + 3 : Int32).toNatClampNeg), .int (M 72 (y3 + 4 : Int32).toNatClampNeg), .int (M 72 (y3 + 5 : Int32).toNatClampNeg)] M).bind (fun q7 => if mj_inB (y3 + 1) sl = true then (if mj_inB (y3 + 2) sl = true then (if mj_inB (y3 + 3) sl = true then (if mj_inB (y3 + 4) sl = true then (if mj_inB (y3 + 5) sl = true then ((mj_C sl d 145 [.ref 45, .int (q7.2 72 (y3 + 1 : Int32).toNatClampNeg), .int (q7.2 72 (y3 + 2 : Int32).toNatClampNeg), .int (q7.2 72 (y3 + 3 : Int32).toNatClampNeg), .int (q7.2 72 (y3 + 4 : Int32).toNatClampNeg), .int (q7.2 72 (y3 + 5 : Int32).toNatClampNeg)] q7.2).bind (fun q8 => if q7.1 = q8.1 then (mj_E sl (d + 1) 232 18 [.ref 72, .ref 0, .ref 45, .int (y3 + 6)] [] q8.2) else (some ((0 : Int32), q8.2)))) else none) else none) else none) else none) else none)) else none) else none) else none) else none) else none) else (if (M 72 (y3 : Int32).toNatClampNeg) &&& 31 = 4 then (if mj_inB (y3 + 1) sl = true then ((mj_C sl d 82 [.ref 0, .int (M 72 (y3 + 1 : Int32).toNatClampNeg)] M).bind (fun q9 => if mj_inB (y3 + 1) sl = true then ((mj_C sl d 168 [.ref 45, .int (q9.2 72 (y3 + 1 : Int32).toNatClampNeg)] q9.2).bind (fun q10 => if q9.1 = q10.1 then (mj_E sl (d + 1) 232 18 [.ref 72, .ref 0, .ref 45, .int (y3 + 6)] [] q10.2) else (some ((0 : Int32), q10.2)))) else none)) else none) else (if (M 72 (y3 : Int32).toNatClampNeg) &&& 31 = 5 then (if mj_inB (y3 + 1) sl = true then ((mj_C sl d 83 [.ref 0, .int (M 72 (y3 + 1 : Int32).toNatClampNeg)] M).bind (fun q11 => if mj_inB (y3 + 1) sl = true then ((mj_C sl d 176 [.ref 45, .int (q11.2 72 (y3 + 1 : Int32).toNatClampNeg)] q11.2).bind (fun q12 => if q11.1 = q12.1 then (mj_E sl (d + 1) 232 18 [.ref 72, .ref 0, .ref 45, .int (y3 + 6)] [] q12.2) else (some ((0 : Int32), q12.2)))) else none)) else none) else (if (M 72 (y3 : Int32).toNatClampNeg) &&& 31 = 6 then (if mj_inB (y3 + 1) sl = true then ((mj_C sl d 84 [.ref 0, .int (M 72 (y3 + 1 : Int32).toNatClampNeg)] M).bind (fun q13 => if mj_inB (y3 + 1) sl = true then ((mj_C sl d 184 [.ref 45, .int (q13.2 72 (y3 + 1 : Int32).toNatClampNeg)] q13.2).bind (fun q14 => if q13.1 = q14.1 then (mj_E sl (d + 1) 232 18 [.ref 72, .ref 0, .ref 45, .int (y3 + 6)] [] q14.2) else (some ((0 : Int32), q14.2)))) else none)) else none) else (if (M 72 (y3 : Int32).toNatClampNeg) &&& 31 = 7 then (if mj_inB (y3 + 1) sl = true then ((mj_C sl d 85 [.ref 0, .int (M 72 (y3 + 1 : Int32).toNatClampNeg)] M).bind (fun q15 => if mj_inB (y3 + 1) sl = true then ((mj_C sl d 190 [.ref 45, .int (q15.2 72 (y3 + 1 : Int32).toNatClampNeg)] q15.2).bind (fun q16 => if q15.1 = q16.1 then (mj_E sl (d + 1) 232 18 [.ref 72, .ref 0, .ref 45, .int (y3 + 6)] [] q16.2) else (some ((0 : Int32), q16.2)))) else none)) else none) else (if (M 72 (y3 : Int32).toNatClampNeg) &&& 31 = 8 then (if mj_inB (y3 + 1) sl = true then (if mj_inB (y3 + 2) sl = true then ((mj_C sl d 86 [.ref 0, .int (M 72 (y3 + 1 : Int32).toNatClampNeg), .int (M 72 (y3 + 2 : Int32).toNatClampNeg)] M).bind (fun q17 => if mj_inB (y3 + 1) sl = true then (if mj_inB (y3 + 2) sl = true then ((mj_C sl d 192 [.ref 45, .int (q17.2 72 (y3 + 1 : Int32).toNatClampNeg), .int (q17.2 72 (y3 + 2 : Int32).toNatClampNeg)] q17.2).bind (fun q18 => if q17.1 = q18.1 then (mj_E sl (d + 1) 232 18 [.ref 72, .ref 0, .ref 45, .int (y3 + 6)] [] q18.2) else (some ((0 : Int32), q18.2)))) else none) else none)) else none) else none) else (if (M 72 (y3 : Int32).toNatClampNeg) &&& 31 = 9 then (if mj_inB (y3 + 1) sl = true then (if mj_inB (y3 + 2) sl = true then ((mj_C sl d 89 [.ref 0, .int (M 72 (y3 + 1 : Int32).toNatClampNeg), .int (M 72 (y3 + 2 : Int32).toNatClampNeg)] M).bind (fun q19 => if mj_inB (y3 + 1) sl = true then (if mj_inB (y3 + 2) sl = true then ((mj_C sl d 193 [.ref 45, .int (q19.2 72 (y3 + 1 : Int32).toNatClampNeg), .int (q19.2 72 (y3 + 2 : Int32).toNatClampNeg)] q19.2).bind (fun q20 => if q19.1 = q20.1 then (mj_E sl (d + 1) 232 18 [.ref 72, .ref 0, .ref 45, .int (y3 + 6)] [] q20.2) else (some ((0 : Int32), q20.2)))) else none) else none)) else none) else none) else (if (M 72 (y3 : Int32).toNatClampNeg) &&& 31 = 10 then (if mj_inB (y3 + 1) sl = true then (if mj_inB (y3 + 2) sl = true then ((mj_C sl d 91 [.ref 0, .int (M 72 (y3 + 1 : Int32).toNatClampNeg), .int (M 72 (y3 + 2 : Int32).toNatClampNeg)] M).bind (fun q21 => if mj_inB (y3 + 1) sl = true then (if mj_inB (y3 + 2) sl = true then ((mj_C sl d 194 [.ref 45, .int (q21.2 72 (y3 + 1 : Int32).toNatClampNeg), .int (q21.2 72 (y3 + 2 : Int32).toNatClampNeg)] q21.2).bind (fun q22 => if q21.1 = q22.1 then (mj_E sl (d + 1) 232 18 [.ref 72, .ref 0, .ref 45, .int (y3 + 6)] [] q22.2) else (some ((0 : Int32), q22.2)))) else none) else none)) else none) else none) else (if (M 72 (y3 : Int32).toNatClampNeg) &&& 31 = 11 then (if mj_inB (y3 + 1) sl = true then ((mj_C sl d 92 [.ref 0, .int (M 72 (y3 + 1 : Int32).toNatClampNeg)] M).bind (fun q23 => if mj_inB (y3 + 1) sl = true then ((mj_C sl d 195 [.ref 45, .int (q23.2 72 (y3 + 1 : Int32).toNatClampNeg)] q23.2).bind (fun q24 => if q23.1 = q24.1 then (mj_E sl (d + 1) 232 18 [.ref 72, .ref 0, .ref 45, .int (y3 + 6)] [] q24.2) else (some ((0 : Int32), q24.2)))) else none)) else none) else (if (M 72 (y3 : Int32).toNatClampNeg) &&& 31 = 12 then (if mj_inB (y3 + 1) sl = true then ((mj_C sl d 93 [.ref 0, .int (M 72 (y3 + 1 : Int32).toNatClampNeg)] M).bind (fun q25 => if mj_inB (y3 + 1) sl = true then ((mj_C sl d 196 [.ref 45, .int (q25.2 72 (y3 + 1 : Int32).toNatClampNeg)] q25.2).bind (fun q26 => if q25.1 = q26.1 then (mj_E sl (d + 1) 232 18 [.ref 72, .ref 0, .ref 45, .int (y3 + 6)] [] q26.2) else (some ((0 : Int32), q26.2)))) else none)) else none) else (if (M 72 (y3 : Int32).toNatClampNeg) &&& 31 = 13 then (if mj_inB (y3 + 1) sl = true then (if mj_inB (y3 + 2) sl = true then ((mj_C sl d 94 [.ref 0, .int (M 72 (y3 + 1 : Int32).toNatClampNeg), .int (M 72 (y3 + 2 : Int32).toNatClampNeg)] M).bind (fun q27 => if mj_inB (y3 + 1) sl = true then (if mj_inB (y3 + 2) sl = true then ((mj_C sl d 197 [.ref 45, .int (q27.2 72 (y3 + 1 : Int32).toNatClampNeg), .int (q27.2 72 (y3 + 2 : Int32).toNatClampNeg)] q27.2).bind (fun q28 => if q27.1 = q28.1 then (mj_E sl (d + 1) 232 18 [.ref 72, .ref 0, .ref 45, .int (y3 + 6)] [] q28.2) else (some ((0 : Int32), q28.2)))) else none) else none)) else none) else none) else (if (M 72 (y3 : Int32).toNatClampNeg) &&& 31 = 14 then (if mj_inB (y3 + 1) sl = true then (if mj_inB (y3 + 2) sl = true then ((mj_C sl d 95 [.ref 0, .int (M 72 (y3 + 1 : Int32).toNatClampNeg), .int (M 72 (y3 + 2 : Int32).toNatClampNeg)] M).bind (fun q29 => if mj_inB (y3 + 1) sl = true then (if mj_inB (y3 + 2) sl = true then ((mj_C sl d 198 [.ref 45, .int (q29.2 72 (y3 + 1 : Int32).toNatClampNeg), .int (q29.2 72 (y3 + 2 : Int32).toNatClampNeg)] q29.2).bind (fun q30 => if q29.1 = q30.1 then (mj_E sl (d + 1) 232 18 [.ref 72, .ref 0, .ref 45, .int (y3 + 6)] [] q30.2) else (some ((0 : Int32), q30.2)))) else none) else none)) else none) else none) else (if (M 72 (y3 : Int32).toNatClampNeg) &&& 31 = 15 then (if mj_inB (y3 + 1) sl = true then (if mj_inB (y3 + 2) sl = true then ((mj_C sl d 98 [.ref 0, .int (M 72 (y3 + 1 : Int32).toNatClampNeg), .int (M 72 (y3 + 2 : Int32).toNatClampNeg)] M).bind (fun q31 => if mj_inB (y3 + 1) sl = true then (if mj_inB (y3 + 2) sl = true then ((mj_C sl d 199 [.ref 45, .int (q31.2 72 (y3 + 1 : Int32).toNatClampNeg), .int (q31.2 72 (y3 + 2 : Int32).toNatClampNeg)] q31.2).bind (fun q32 => if q31.1 = q32.1 then (mj_E sl (d + 1) 232 18 [.ref 72, .ref 0, .ref 45, .int (y3 + 6)] [] q32.2) else (some ((0 : Int32), q32.2)))) else none) else none)) else none) else none) else (if (M 72 (y3 : Int32).toNatClampNeg) &&& 31 = 16 then (if mj_inB (y3 + 1) sl = true then (if mj_inB (y3 + 2) sl = true then (if mj_inB (y3 + 3) sl = true then ((mj_C sl d 101 [.ref 0, .int (M 72 (y3 + 1 : Int32).toNatClampNeg), .int (M 72 (y3 + 2 : Int32).toNatClampNeg), .int (M 72 (y3 + 3 : Int32).toNatClampNeg)] M).bind (fun q33 => if mj_inB (y3 + 1) sl = true then (if mj_inB (y3 + 2) sl = true then (if mj_inB (y3 + 3) sl = true then ((mj_C sl d 201 [.ref 45, .int (q33.2 72 (y3 + 1 : Int32).toNatClampNeg), .int (q33.2 72 (y3 + 2 : Int32).toNatClampNeg), .int (q33.2 72 (y3 + 3 : Int32).toNatClampNeg)] q33.2).bind (fun q34 => if q33.1 = q34.1 then (mj_E sl (d + 1) 232 18 [.ref 72, .ref 0, .ref 45, .int (y3 + 6)] [] q34.2) else (some ((0 : Int32), q34.2)))) else none) else none) else none)) else none) else none) else none) else (if (M 72 (y3 : Int32).toNatClampNeg) &&& 31 = 17 then (if mj_inB (y3 + 1) sl = true then (if mj_inB (y3 + 2) sl = true then ((mj_C sl d 104 [.ref 0, .int (M 72 (y3 + 1 : Int32).toNatClampNeg), .int (M 72 (y3 + 2 : Int32).toNatClampNeg)] M).bind (fun q35 => if mj_inB (y3 + 1) sl = true then (if mj_inB (y3 + 2) sl = true then ((mj_C sl d 203 [.ref 45, .int (q35.2 72 (y3 + 1 : Int32).toNatClampNeg), .int (q35.2 72 (y3 + 2 : Int32).toNatClampNeg)] q35.2).bind (fun q36 => if q35.1 = q36.1 then (mj_E sl (d + 1) 232 18 [.ref 72, .ref 0, .ref 45, .int (y3 + 6)] [] q36.2) else (some ((0 : Int32), q36.2)))) else none) else none)) else none) else none) else (if (M 72 (y3 : Int32).toNatClampNeg) &&& 31 = 18 then (if mj_inB (y3 + 1) sl = true then (if mj_inB (y3 + 2) sl = true then ((mj_C sl d 107 [.ref 0, .int (M 72 (y3 + 1 : Int32).toNatClampNeg), .int (M 72 (y3 + 2 : Int32).toNatClampNeg)] M).bind (fun q37 => if mj_inB (y3 + 1) sl = true then (if mj_inB (y3 + 2) sl = true then ((mj_C sl d 205 [.ref 45, .int (q37.2 72 (y3 + 1 : Int32).toNatClampNeg), .int (q37.2 72 (y3 + 2 : Int32).toNatClampNeg)] q37.2).bind (fun q38 => if q37.1 = q38.1 then (mj_E sl (d + 1) 232 18 [.ref 72, .ref 0, .ref 45, .int (y3 + 6)] [] q38.2) else (some ((0 : Int32), q38.2)))) else none) else none)) else none) else none) else (if (M 72 (y3 : Int32).toNatClampNeg) &&& 31 = 19 then (if mj_inB (y3 + 1) sl = true then (if mj_inB (y3 + 2) sl = true then ((mj_C sl d 108 [.ref 0, .int (M 72 (y3 + 1 : Int32).toNatClampNeg), .int (M 72 (y3 + 2 : Int32).toNatClampNeg)] M).bind (fun q39 => if mj_inB (y3 + 1) sl = true then (if mj_inB (y3 + 2) sl = true then ((mj_C sl d 207 [.ref 45, .int (q39.2 72 (y3 + 1 : Int32).toNatClampNeg), .int (q39.2 72 (y3 + 2 : Int32).toNatClampNeg)] q39.2).bind (fun q40 => if q39.1 = q40.1 then (mj_E sl (d + 1) 232 18 [.ref 72, .ref 0, .ref 45, .int (y3 + 6)] [] q40.2) else (some ((0 : Int32), q40.2)))) else none) else none)) else none) else none) else (if (M 72 (y3 : Int32).toNatClampNeg) &&& 31 = 20 then (if mj_inB (y3 + 1) sl = true then (if mj_inB (y3 + 2) sl = true then ((mj_C sl d 112 [.ref 0, .int (M 72 (y3 + 1 : Int32).toNatClampNeg), .int (M 72 (y3 + 2 : Int32).toNatClampNeg)] M).bind (fun q41 => if mj_inB (y3 + 1) sl = true then (if mj_inB (y3 + 2) sl = true then ((mj_C sl d 208 [.ref 45, .int (q41.2 72 (y3 + 1 : Int32).toNatClampNeg), .int (q41.2 72 (y3 + 2 : Int32).toNatClampNeg)] q41.2).bind (fun q42 => if q41.1 = q42.1 then (mj_E sl (d + 1) 232 18 [.ref 72, .ref 0, .ref 45, .int (y3 + 6)] [] q42.2) else (some ((0 : Int32), q42.2)))) else none) else none)) else none) else none) else (if (M 72 (y3 : Int32).toNatClampNeg) &&& 31 = 21 then ((mj_C sl d 113 [.ref 0] M).bind (fun q43 => (mj_C sl d 209 [.ref 45] q43.2).bind (fun q44 => if q43.1 = q44.1 then (mj_E sl (d + 1) 232 18 [.ref 72, .ref 0, .ref 45, .int (y3 + 6)] [] q44.2) else (some ((0 : Int32), q44.2))))) else (if (M 72 (y3 : Int32).toNatClampNeg) &&& 31 = 22 then (if mj_inB (y3 + 1) sl = true then (if mj_inB (y3 + 2) sl = true then ((mj_C sl d 114 [.ref 0, .int (M 72 (y3 + 1 : Int32).toNatClampNeg), .int (M 72 (y3 + 2 : Int32).toNatClampNeg)] M).bind (fun q45 => if mj_inB (y3 + 1) sl = true then (if mj_inB (y3 + 2) sl = true then ((mj_C sl d 210 [.ref 45, .int (q45.2 72 (y3 + 1 : Int32).toNatClampNeg), .int (q45.2 72 (y3 + 2 : Int32).toNatClampNeg)] q45.2).bind (fun q46 => if q45.1 = q46.1 then (mj_E sl (d + 1) 232 18 [.ref 72, .ref 0, .ref 45, .int (y3 + 6)] [] q46.2) else (some ((0 : Int32), q46.2)))) else none) else none)) else none) else none) else (if (M 72 (y3 : Int32).toNatClampNeg) &&& 31 = 23 then (if mj_inB (y3 + 1) sl = true then (if mj_inB (y3 + 2) sl = true then ((mj_C sl d 115 [.ref 0, .int (M 72 (y3 + 1 : Int32).toNatClampNeg), .int (M 72 (y3 + 2 : Int32).toNatClampNeg)] M).bind (fun q47 => if mj_inB (y3 + 1) sl = true then (if mj_inB (y3 + 2) sl = true then ((mj_C sl d 220 [.ref 45, .int (q47.2 72 (y3 + 1 : Int32).toNatClampNeg), .int (q47.2 72 (y3 + 2 : Int32).toNatClampNeg)] q47.2).bind (fun q48 => if q47.1 = q48.1 then (mj_E sl (d + 1) 232 18 [.ref 72, .ref 0, .ref 45, .int (y3 + 6)] [] q48.2) else (some ((0 : Int32), q48.2)))) else none) else none)) else none) else none) else (if (M 72 (y3 : Int32).toNatClampNeg) &&& 31 = 24 then (if mj_inB (y3 + 1) sl = true then (if mj_inB (y3 + 2) sl = true then ((mj_C sl d 116 [.ref 0, .int (M 72 (y3 + 1 : Int32).toNatClampNeg), .int (M 72 (y3 + 2 : Int32).toNatClampNeg)] M).bind (fun q49 => if mj_inB (y3 + 1) sl = true then (if mj_inB (y3 + 2) sl = true then ((mj_C sl d 221 [.ref 45, .int (q49.2 72 (y3 + 1 : Int32).toNatClampNeg), .int (q49.2 72 (y3 + 2 : Int32).toNatClampNeg)] q49.2).bind (fun q50 => if q49.1 = q50.1 then (mj_E sl (d + 1) 232 18 [.ref 72, .ref 0, .ref 45, .int (y3 + 6)] [] q50.2) else (some ((0 : Int32), q50.2)))) else none) else none)) else none) else none) else (if (M 72 (y3 : Int32).toNatClampNeg) &&& 31 = 25 then (if mj_inB (y3 + 1) sl = true then (if mj_inB (y3 + 2) sl = true then ((mj_C sl d 117 [.ref 0, .int (M 72 (y3 + 1 : Int32).toNatClampNeg), .int (M 72 (y3 + 2 : Int32).toNatClampNeg)] M).bind (fun q51 => if mj_inB (y3 + 1) sl = true then (if mj_inB (y3 + 2) sl = true then ((mj_C sl d 223 [.ref 45, .int (q51.2 72 (y3 + 1 : Int32).toNatClampNeg), .int (q51.2 72 (y3 + 2 : Int32).toNatClampNeg)] q51.2).bind (fun q52 => if q51.1 = q52.1 then (mj_E sl (d + 1) 232 18 [.ref 72, .ref 0, .ref 45, .int (y3 + 6)] [] q52.2) else (some ((0 : Int32), q52.2)))) else none) else none)) else none) else none) else (if (M 72 (y3 : Int32).toNatClampNeg) &&& 31 = 26 then (if mj_inB (y3 + 1) sl = true then ((mj_C sl d 118 [.ref 0, .int (M 72 (y3 + 1 : Int32).toNatClampNeg)] M).bind (fun q53 => if mj_inB (y3 + 1) sl = true then ((mj_C sl d 224 [.ref 45, .int (q53.2 72 (y3 + 1 : Int32).toNatClampNeg)] q53.2).bind (fun q54 => if q53.1 = q54.1 then (mj_E sl (d + 1) 232 18 [.ref 72, .ref 0, .ref 45, .int (y3 + 6)] [] q54.2) else (some ((0 : Int32), q54.2)))) else none)) else none) else (if (M 72 (y3 : Int32).toNatClampNeg) &&& 31 = 27 then ((mj_C sl d 119 [.ref 0] M).bind (fun q55 => (mj_C sl d 225 [.ref 45] q55.2).bind (fun q56 => if q55.1 = q56.1 then (mj_E sl (d + 1) 232 18 [.ref 72, .ref 0, .ref 45, .int (y3 + 6)] [] q56.2) else (some ((0 : Int32), q56.2))))) else (if (M 72 (y3 : Int32).toNatClampNeg) &&& 31 = 28 then ((mj_C sl d 120 [.ref 0] M).bind (fun q57 => (mj_C sl d 226 [.ref 45] q57.2).bind (fun q58 => if q57.1 = q58.1 then (mj_E sl (d + 1) 232 18 [.ref 72, .ref 0, .ref 45, .int (y3 + 6)] [] q58.2) else (some ((0 : Int32), q58.2))))) else (if (M 72 (y3 : Int32).toNatClampNeg) &&& 31 = 29 then (if mj_inB (y3 + 1) sl = true then ((mj_C sl d 121 [.ref 0, .int (M 72 (y3 + 1 : Int32).toNatClampNeg)] M).bind (fun q59 => if mj_inB (y3 + 1) sl = true then ((mj_C sl d 227 [.ref 45, .int (q59.2 72 (y3 + 1 : Int32).toNatClampNeg)] q59.2).bind (fun q60 => if q59.1 = q60.1 then (mj_E sl (d + 1) 232 18 [.ref 72, .ref 0, .ref 45, .int (y3 + 6)] [] q60.2) else (some ((0 : Int32), q60.2)))) else none)) else none) else (if (M 72 (y3 : Int32).toNatClampNeg) &&& 31 = 30 then (if mj_inB (y3 + 1) sl = true then ((mj_C sl d 122 [.ref 0, .int (M 72 (y3 + 1 : Int32).toNatClampNeg)] M).bind (fun q61 => if mj_inB (y3 + 1) sl = true then ((mj_C sl d 228 [.ref 45, .int (q61.2 72 (y3 + 1 : Int32).toNatClampNeg)] q61.2).bind (fun q62 => if q61.1 = q62.1 then (mj_E sl (d + 1) 232 18 [.ref 72, .ref 0, .ref 45, .int (y3 + 6)] [] q62.2) else (some ((0 : Int32), q62.2)))) else none)) else none) else (mj_E sl (d + 1) 232 18 [.ref 72, .ref 0, .ref 45, .int (y3 + 6)] [] M)))))))))))))))))))))))))))))))) else none) else (some ((1 : Int32), M)) := by
  refine (sx_iload_n dx_232_18 rfl).trans ?_
  refine (sx_aload_n dx_232_19 rfl).trans ?_
  refine (sx_slen dx_232_20).trans ?_
  refine (sx_bipush (v := 6) dx_232_21 rfl).trans ?_
  refine (sx_isub dx_232_23).trans ?_
  refine (sx_icmp_gt (tgt := 1111) dx_232_24 (by decide)).trans ?_
  refine mj_ite ?_ ?_
  · refine (sx_aload_n dx_232_27 rfl).trans ?_
    refine (sx_iload_n dx_232_28 rfl).trans ?_
    refine (sx_sld dx_232_29).trans ?_
    refine mj_ite ?_ rfl
    refine (sx_bipush (v := 31) dx_232_30 rfl).trans ?_
    refine (sx_iand dx_232_32).trans ?_
    refine mj_sel (fun hx1_0 => ?_) (fun hx1_0 => ?_)
    · refine (sx_tsw_in (off := 139) (tgt := 172) dx_232_33 hx1_0 (by decide) (by decide) (by decide)).trans ?_
      refine (sx_aload_n dx_232_172 rfl).trans ?_
      refine (sx_aload_n dx_232_173 rfl).trans ?_
      refine (sx_iload_n dx_232_174 rfl).trans ?_
      refine (sx_iconst (v := 1) dx_232_175 rfl).trans ?_
      refine (sx_iadd dx_232_176).trans ?_
      refine (sx_sld dx_232_177).trans ?_
      refine mj_ite ?_ rfl
      refine (sx_aload_n dx_232_178 rfl).trans ?_
      refine (sx_iload_n dx_232_179 rfl).trans ?_
      refine (sx_iconst (v := 2) dx_232_180 rfl).trans ?_
      refine (sx_iadd dx_232_181).trans ?_
      refine (sx_sld dx_232_182).trans ?_
      refine mj_ite ?_ rfl
      refine (sx_v2i dx_232_183 ow_232 cx_10_13 oc_0 (Nat.le_of_ble_eq_true rfl)).trans ?_
      refine mj_bnd (fun q1 => ?_)
      refine (sx_aload_n dx_232_186 rfl).trans ?_
      refine (sx_aload_n dx_232_187 rfl).trans ?_
      refine (sx_iload_n dx_232_188 rfl).trans ?_
      refine (sx_iconst (v := 1) dx_232_189 rfl).trans ?_
      refine (sx_iadd dx_232_190).trans ?_
      refine (sx_sld dx_232_191).trans ?_
      refine mj_ite ?_ rfl
      refine (sx_aload_n dx_232_192 rfl).trans ?_
      refine (sx_iload_n dx_232_193 rfl).trans ?_
      refine (sx_iconst (v := 2) dx_232_194 rfl).trans ?_
      refine (sx_iadd dx_232_195).trans ?_
      refine (sx_sld dx_232_196).trans ?_
      refine mj_ite ?_ rfl
      refine (sx_v2i dx_232_197 ow_232 cx_10_17 oc_45 (Nat.le_of_ble_eq_true rfl)).trans ?_
      refine mj_bnd (fun q2 => ?_)
      refine (sx_icmp_eq (tgt := 1105) dx_232_200 (by decide)).trans ?_
      refine mj_ite ?_ ?_
      · refine (sx_iinc (v := 6) dx_232_1105 rfl rfl rfl).trans ?_
        refine (sx_goto (tgt := 18) dx_232_1108 (by decide)).trans ?_
        rfl
      · refine (sx_iconst (v := 0) dx_232_203 rfl).trans ?_
        exact sx_retz dx_232_204 rt_232 (by decide)
    refine mj_sel (fun hx1_1 => ?_) (fun hx1_1 => ?_)
    · refine (sx_tsw_in (off := 172) (tgt := 205) dx_232_33 hx1_1 (by decide) (by decide) (by decide)).trans ?_
      refine (sx_aload_n dx_232_205 rfl).trans ?_
      refine (sx_aload_n dx_232_206 rfl).trans ?_
      refine (sx_iload_n dx_232_207 rfl).trans ?_
      refine (sx_iconst (v := 1) dx_232_208 rfl).trans ?_
      refine (sx_iadd dx_232_209).trans ?_
      refine (sx_sld dx_232_210).trans ?_
      refine mj_ite ?_ rfl
      refine (sx_aload_n dx_232_211 rfl).trans ?_
      refine (sx_iload_n dx_232_212 rfl).trans ?_
      refine (sx_iconst (v := 2) dx_232_213 rfl).trans ?_
      refine (sx_iadd dx_232_214).trans ?_
      refine (sx_sld dx_232_215).trans ?_
      refine mj_ite ?_ rfl
      refine (sx_aload_n dx_232_216 rfl).trans ?_
      refine (sx_iload_n dx_232_217 rfl).trans ?_
      refine (sx_iconst (v := 3) dx_232_218 rfl).trans ?_
      refine (sx_iadd dx_232_219).trans ?_
      refine (sx_sld dx_232_220).trans ?_
      refine mj_ite ?_ rfl
      refine (sx_v3i dx_232_221 ow_232 cx_10_18 oc_0 (Nat.le_of_ble_eq_true rfl)).trans ?_
      refine mj_bnd (fun q3 => ?_)
      refine (sx_aload_n dx_232_224 rfl).trans ?_
      refine (sx_aload_n dx_232_225 rfl).trans ?_
      refine (sx_iload_n dx_232_226 rfl).trans ?_
      refine (sx_iconst (v := 1) dx_232_227 rfl).trans ?_
      refine (sx_iadd dx_232_228).trans ?_
      refine (sx_sld dx_232_229).trans ?_
      refine mj_ite ?_ rfl
      refine (sx_aload_n dx_232_230 rfl).trans ?_
      refine (sx_iload_n dx_232_231 rfl).trans ?_
      refine (sx_iconst (v := 2) dx_232_232 rfl).trans ?_
      refine (sx_iadd dx_232_233).trans ?_
      refine (sx_sld dx_232_234).trans ?_
      refine mj_ite ?_ rfl
      refine (sx_aload_n dx_232_235 rfl).trans ?_
      refine (sx_iload_n dx_232_236 rfl).trans ?_
      refine (sx_iconst (v := 3) dx_232_237 rfl).trans ?_
      refine (sx_iadd dx_232_238).trans ?_
      refine (sx_sld dx_232_239).trans ?_
      refine mj_ite ?_ rfl
      refine (sx_v3i dx_232_240 ow_232 cx_10_22 oc_45 (Nat.le_of_ble_eq_true rfl)).trans ?_
      refine mj_bnd (fun q4 => ?_)
      refine (sx_icmp_eq (tgt := 1105) dx_232_243 (by decide)).trans ?_
      refine mj_ite ?_ ?_
      · refine (sx_iinc (v := 6) dx_232_1105 rfl rfl rfl).trans ?_
        refine (sx_goto (tgt := 18) dx_232_1108 (by decide)).trans ?_
        rfl
      · refine (sx_iconst (v := 0) dx_232_246 rfl).trans ?_
        exact sx_retz dx_232_247 rt_232 (by decide)
    refine mj_sel (fun hx1_2 => ?_) (fun hx1_2 => ?_)
    · refine (sx_tsw_in (off := 215) (tgt := 248) dx_232_33 hx1_2 (by decide) (by decide) (by decide)).trans ?_
      refine (sx_aload_n dx_232_248 rfl).trans ?_
      refine (sx_aload_n dx_232_249 rfl).trans ?_
      refine (sx_iload_n dx_232_250 rfl).trans ?_
      refine (sx_iconst (v := 1) dx_232_251 rfl).trans ?_
      refine (sx_iadd dx_232_252).trans ?_
      refine (sx_sld dx_232_253).trans ?_
      refine mj_ite ?_ rfl
      refine (sx_aload_n dx_232_254 rfl).trans ?_
      refine (sx_iload_n dx_232_255 rfl).trans ?_
      refine (sx_iconst (v := 2) dx_232_256 rfl).trans ?_
      refine (sx_iadd dx_232_257).trans ?_
      refine (sx_sld dx_232_258).trans ?_
      refine mj_ite ?_ rfl
      refine (sx_aload_n dx_232_259 rfl).trans ?_
      refine (sx_iload_n dx_232_260 rfl).trans ?_
      refine (sx_iconst (v := 3) dx_232_261 rfl).trans ?_
      refine (sx_iadd dx_232_262).trans ?_
      refine (sx_sld dx_232_263).trans ?_
      refine mj_ite ?_ rfl
      refine (sx_v3i dx_232_264 ow_232 cx_10_23 oc_0 (Nat.le_of_ble_eq_true rfl)).trans ?_
      refine mj_bnd (fun q5 => ?_)
      refine (sx_aload_n dx_232_267 rfl).trans ?_
      refine (sx_aload_n dx_232_268 rfl).trans ?_
      refine (sx_iload_n dx_232_269 rfl).trans ?_
      refine (sx_iconst (v := 1) dx_232_270 rfl).trans ?_
      refine (sx_iadd dx_232_271).trans ?_
      refine (sx_sld dx_232_272).trans ?_
      refine mj_ite ?_ rfl
      refine (sx_aload_n dx_232_273 rfl).trans ?_
      refine (sx_iload_n dx_232_274 rfl).trans ?_
      refine (sx_iconst (v := 2) dx_232_275 rfl).trans ?_
      refine (sx_iadd dx_232_276).trans ?_
      refine (sx_sld dx_232_277).trans ?_
      refine mj_ite ?_ rfl
      refine (sx_aload_n dx_232_278 rfl).trans ?_
      refine (sx_iload_n dx_232_279 rfl).trans ?_
      refine (sx_iconst (v := 3) dx_232_280 rfl).trans ?_
      refine (sx_iadd dx_232_281).trans ?_
      refine (sx_sld dx_232_282).trans ?_
      refine mj_ite ?_ rfl
      refine (sx_v3i dx_232_283 ow_232 cx_10_26 oc_45 (Nat.le_of_ble_eq_true rfl)).trans ?_
      refine mj_bnd (fun q6 => ?_)
      refine (sx_icmp_eq (tgt := 1105) dx_232_286 (by decide)).trans ?_
      refine mj_ite ?_ ?_
      · refine (sx_iinc (v := 6) dx_232_1105 rfl rfl rfl).trans ?_
        refine (sx_goto (tgt := 18) dx_232_1108 (by decide)).trans ?_
        rfl
      · refine (sx_iconst (v := 0) dx_232_289 rfl).trans ?_
        exact sx_retz dx_232_290 rt_232 (by decide)
    refine mj_sel (fun hx1_3 => ?_) (fun hx1_3 => ?_)
    · refine (sx_tsw_in (off := 258) (tgt := 291) dx_232_33 hx1_3 (by decide) (by decide) (by decide)).trans ?_
      refine (sx_aload_n dx_232_291 rfl).trans ?_
      refine (sx_aload_n dx_232_292 rfl).trans ?_
      refine (sx_iload_n dx_232_293 rfl).trans ?_
      refine (sx_iconst (v := 1) dx_232_294 rfl).trans ?_
      refine (sx_iadd dx_232_295).trans ?_
      refine (sx_sld dx_232_296).trans ?_
      refine mj_ite ?_ rfl
      refine (sx_aload_n dx_232_297 rfl).trans ?_
      refine (sx_iload_n dx_232_298 rfl).trans ?_
      refine (sx_iconst (v := 2) dx_232_299 rfl).trans ?_
      refine (sx_iadd dx_232_300).trans ?_
      refine (sx_sld dx_232_301).trans ?_
      refine mj_ite ?_ rfl
      refine (sx_aload_n dx_232_302 rfl).trans ?_
      refine (sx_iload_n dx_232_303 rfl).trans ?_
      refine (sx_iconst (v := 3) dx_232_304 rfl).trans ?_
      refine (sx_iadd dx_232_305).trans ?_
      refine (sx_sld dx_232_306).trans ?_
      refine mj_ite ?_ rfl
      refine (sx_aload_n dx_232_307 rfl).trans ?_
      refine (sx_iload_n dx_232_308 rfl).trans ?_
      refine (sx_iconst (v := 4) dx_232_309 rfl).trans ?_
      refine (sx_iadd dx_232_310).trans ?_
      refine (sx_sld dx_232_311).trans ?_
      refine mj_ite ?_ rfl
      refine (sx_aload_n dx_232_312 rfl).trans ?_
      refine (sx_iload_n dx_232_313 rfl).trans ?_
      refine (sx_iconst (v := 5) dx_232_314 rfl).trans ?_
      refine (sx_iadd dx_232_315).trans ?_
      refine (sx_sld dx_232_316).trans ?_
      refine mj_ite ?_ rfl
      refine (sx_v5i dx_232_317 ow_232 cx_10_27 oc_0 (Nat.le_of_ble_eq_true rfl)).trans ?_
      refine mj_bnd (fun q7 => ?_)
      refine (sx_aload_n dx_232_320 rfl).trans ?_
      refine (sx_aload_n dx_232_321 rfl).trans ?_
      refine (sx_iload_n dx_232_322 rfl).trans ?_
      refine (sx_iconst (v := 1) dx_232_323 rfl).trans ?_
      refine (sx_iadd dx_232_324).trans ?_
      refine (sx_sld dx_232_325).trans ?_
      refine mj_ite ?_ rfl
      refine (sx_aload_n dx_232_326 rfl).trans ?_
      refine (sx_iload_n dx_232_327 rfl).trans ?_
      refine (sx_iconst (v := 2) dx_232_328 rfl).trans ?_
      refine (sx_iadd dx_232_329).trans ?_
      refine (sx_sld dx_232_330).trans ?_
      refine mj_ite ?_ rfl
      refine (sx_aload_n dx_232_331 rfl).trans ?_
      refine (sx_iload_n dx_232_332 rfl).trans ?_
      refine (sx_iconst (v := 3) dx_232_333 rfl).trans ?_
      refine (sx_iadd dx_232_334).trans ?_
      refine (sx_sld dx_232_335).trans ?_
      refine mj_ite ?_ rfl
      refine (sx_aload_n dx_232_336 rfl).trans ?_
      refine (sx_iload_n dx_232_337 rfl).trans ?_
      refine (sx_iconst (v := 4) dx_232_338 rfl).trans ?_
      refine (sx_iadd dx_232_339).trans ?_
      refine (sx_sld dx_232_340).trans ?_
      refine mj_ite ?_ rfl
      refine (sx_aload_n dx_232_341 rfl).trans ?_
      refine (sx_iload_n dx_232_342 rfl).trans ?_
      refine (sx_iconst (v := 5) dx_232_343 rfl).trans ?_
      refine (sx_iadd dx_232_344).trans ?_
      refine (sx_sld dx_232_345).trans ?_
      refine mj_ite ?_ rfl
      refine (sx_v5i dx_232_346 ow_232 cx_10_31 oc_45 (Nat.le_of_ble_eq_true rfl)).trans ?_
      refine mj_bnd (fun q8 => ?_)
      refine (sx_icmp_eq (tgt := 1105) dx_232_349 (by decide)).trans ?_
      refine mj_ite ?_ ?_
      · refine (sx_iinc (v := 6) dx_232_1105 rfl rfl rfl).trans ?_
        refine (sx_goto (tgt := 18) dx_232_1108 (by decide)).trans ?_
        rfl
      · refine (sx_iconst (v := 0) dx_232_352 rfl).trans ?_
        exact sx_retz dx_232_353 rt_232 (by decide)
    refine mj_sel (fun hx1_4 => ?_) (fun hx1_4 => ?_)
    · refine (sx_tsw_in (off := 321) (tgt := 354) dx_232_33 hx1_4 (by decide) (by decide) (by decide)).trans ?_
      refine (sx_aload_n dx_232_354 rfl).trans ?_
      refine (sx_aload_n dx_232_355 rfl).trans ?_
      refine (sx_iload_n dx_232_356 rfl).trans ?_
      refine (sx_iconst (v := 1) dx_232_357 rfl).trans ?_
      refine (sx_iadd dx_232_358).trans ?_
      refine (sx_sld dx_232_359).trans ?_
      refine mj_ite ?_ rfl
      refine (sx_v1i dx_232_360 ow_232 cx_10_32 oc_0 (Nat.le_of_ble_eq_true rfl)).trans ?_
      refine mj_bnd (fun q9 => ?_)
      refine (sx_aload_n dx_232_363 rfl).trans ?_
      refine (sx_aload_n dx_232_364 rfl).trans ?_
      refine (sx_iload_n dx_232_365 rfl).trans ?_
      refine (sx_iconst (v := 1) dx_232_366 rfl).trans ?_
      refine (sx_iadd dx_232_367).trans ?_
      refine (sx_sld dx_232_368).trans ?_
      refine mj_ite ?_ rfl
      refine (sx_v1i dx_232_369 ow_232 cx_10_36 oc_45 (Nat.le_of_ble_eq_true rfl)).trans ?_
      refine mj_bnd (fun q10 => ?_)
      refine (sx_icmp_eq (tgt := 1105) dx_232_372 (by decide)).trans ?_
      refine mj_ite ?_ ?_
      · refine (sx_iinc (v := 6) dx_232_1105 rfl rfl rfl).trans ?_
        refine (sx_goto (tgt := 18) dx_232_1108 (by decide)).trans ?_
        rfl
      · refine (sx_iconst (v := 0) dx_232_375 rfl).trans ?_
        exact sx_retz dx_232_376 rt_232 (by decide)
    refine mj_sel (fun hx1_5 => ?_) (fun hx1_5 => ?_)
    · refine (sx_tsw_in (off := 344) (tgt := 377) dx_232_33 hx1_5 (by decide) (by decide) (by decide)).trans ?_
      refine (sx_aload_n dx_232_377 rfl).trans ?_
      refine (sx_aload_n dx_232_378 rfl).trans ?_
      refine (sx_iload_n dx_232_379 rfl).trans ?_
      refine (sx_iconst (v := 1) dx_232_380 rfl).trans ?_
      refine (sx_iadd dx_232_381).trans ?_
      refine (sx_sld dx_232_382).trans ?_
      refine mj_ite ?_ rfl
      refine (sx_v1i dx_232_383 ow_232 cx_10_37 oc_0 (Nat.le_of_ble_eq_true rfl)).trans ?_
      refine mj_bnd (fun q11 => ?_)
      refine (sx_aload_n dx_232_386 rfl).trans ?_
      refine (sx_aload_n dx_232_387 rfl).trans ?_
      refine (sx_iload_n dx_232_388 rfl).trans ?_
      refine (sx_iconst (v := 1) dx_232_389 rfl).trans ?_
      refine (sx_iadd dx_232_390).trans ?_
      refine (sx_sld dx_232_391).trans ?_
      refine mj_ite ?_ rfl
      refine (sx_v1i dx_232_392 ow_232 cx_10_40 oc_45 (Nat.le_of_ble_eq_true rfl)).trans ?_
      refine mj_bnd (fun q12 => ?_)
      refine (sx_icmp_eq (tgt := 1105) dx_232_395 (by decide)).trans ?_
      refine mj_ite ?_ ?_
      · refine (sx_iinc (v := 6) dx_232_1105 rfl rfl rfl).trans ?_
        refine (sx_goto (tgt := 18) dx_232_1108 (by decide)).trans ?_
        rfl
      · refine (sx_iconst (v := 0) dx_232_398 rfl).trans ?_
        exact sx_retz dx_232_399 rt_232 (by decide)
    refine mj_sel (fun hx1_6 => ?_) (fun hx1_6 => ?_)
    · refine (sx_tsw_in (off := 367) (tgt := 400) dx_232_33 hx1_6 (by decide) (by decide) (by decide)).trans ?_
      refine (sx_aload_n dx_232_400 rfl).trans ?_
      refine (sx_aload_n dx_232_401 rfl).trans ?_
      refine (sx_iload_n dx_232_402 rfl).trans ?_
      refine (sx_iconst (v := 1) dx_232_403 rfl).trans ?_
      refine (sx_iadd dx_232_404).trans ?_
      refine (sx_sld dx_232_405).trans ?_
      refine mj_ite ?_ rfl
      refine (sx_v1i dx_232_406 ow_232 cx_10_41 oc_0 (Nat.le_of_ble_eq_true rfl)).trans ?_
      refine mj_bnd (fun q13 => ?_)
      refine (sx_aload_n dx_232_409 rfl).trans ?_
      refine (sx_aload_n dx_232_410 rfl).trans ?_
      refine (sx_iload_n dx_232_411 rfl).trans ?_
      refine (sx_iconst (v := 1) dx_232_412 rfl).trans ?_
      refine (sx_iadd dx_232_413).trans ?_
      refine (sx_sld dx_232_414).trans ?_
      refine mj_ite ?_ rfl
      refine (sx_v1i dx_232_415 ow_232 cx_10_44 oc_45 (Nat.le_of_ble_eq_true rfl)).trans ?_
      refine mj_bnd (fun q14 => ?_)
      refine (sx_icmp_eq (tgt := 1105) dx_232_418 (by decide)).trans ?_
      refine mj_ite ?_ ?_
      · refine (sx_iinc (v := 6) dx_232_1105 rfl rfl rfl).trans ?_
        refine (sx_goto (tgt := 18) dx_232_1108 (by decide)).trans ?_
        rfl
      · refine (sx_iconst (v := 0) dx_232_421 rfl).trans ?_
        exact sx_retz dx_232_422 rt_232 (by decide)
    refine mj_sel (fun hx1_7 => ?_) (fun hx1_7 => ?_)
    · refine (sx_tsw_in (off := 390) (tgt := 423) dx_232_33 hx1_7 (by decide) (by decide) (by decide)).trans ?_
      refine (sx_aload_n dx_232_423 rfl).trans ?_
      refine (sx_aload_n dx_232_424 rfl).trans ?_
      refine (sx_iload_n dx_232_425 rfl).trans ?_
      refine (sx_iconst (v := 1) dx_232_426 rfl).trans ?_
      refine (sx_iadd dx_232_427).trans ?_
      refine (sx_sld dx_232_428).trans ?_
      refine mj_ite ?_ rfl
      refine (sx_v1i dx_232_429 ow_232 cx_10_45 oc_0 (Nat.le_of_ble_eq_true rfl)).trans ?_
      refine mj_bnd (fun q15 => ?_)
      refine (sx_aload_n dx_232_432 rfl).trans ?_
      refine (sx_aload_n dx_232_433 rfl).trans ?_
      refine (sx_iload_n dx_232_434 rfl).trans ?_
      refine (sx_iconst (v := 1) dx_232_435 rfl).trans ?_
      refine (sx_iadd dx_232_436).trans ?_
      refine (sx_sld dx_232_437).trans ?_
      refine mj_ite ?_ rfl
      refine (sx_v1i dx_232_438 ow_232 cx_10_48 oc_45 (Nat.le_of_ble_eq_true rfl)).trans ?_
      refine mj_bnd (fun q16 => ?_)
      refine (sx_icmp_eq (tgt := 1105) dx_232_441 (by decide)).trans ?_
      refine mj_ite ?_ ?_
      · refine (sx_iinc (v := 6) dx_232_1105 rfl rfl rfl).trans ?_
        refine (sx_goto (tgt := 18) dx_232_1108 (by decide)).trans ?_
        rfl
      · refine (sx_iconst (v := 0) dx_232_444 rfl).trans ?_
        exact sx_retz dx_232_445 rt_232 (by decide)
    refine mj_sel (fun hx1_8 => ?_) (fun hx1_8 => ?_)
    · refine (sx_tsw_in (off := 413) (tgt := 446) dx_232_33 hx1_8 (by decide) (by decide) (by decide)).trans ?_
      refine (sx_aload_n dx_232_446 rfl).trans ?_
      refine (sx_aload_n dx_232_447 rfl).trans ?_
      refine (sx_iload_n dx_232_448 rfl).trans ?_
      refine (sx_iconst (v := 1) dx_232_449 rfl).trans ?_
      refine (sx_iadd dx_232_450).trans ?_
      refine (sx_sld dx_232_451).trans ?_
      refine mj_ite ?_ rfl
      refine (sx_aload_n dx_232_452 rfl).trans ?_
      refine (sx_iload_n dx_232_453 rfl).trans ?_
      refine (sx_iconst (v := 2) dx_232_454 rfl).trans ?_
      refine (sx_iadd dx_232_455).trans ?_
      refine (sx_sld dx_232_456).trans ?_
      refine mj_ite ?_ rfl
      refine (sx_v2i dx_232_457 ow_232 cx_10_49 oc_0 (Nat.le_of_ble_eq_true rfl)).trans ?_
      refine mj_bnd (fun q17 => ?_)
      refine (sx_aload_n dx_232_460 rfl).trans ?_
      refine (sx_aload_n dx_232_461 rfl).trans ?_
      refine (sx_iload_n dx_232_462 rfl).trans ?_
      refine (sx_iconst (v := 1) dx_232_463 rfl).trans ?_
      refine (sx_iadd dx_232_464).trans ?_
      refine (sx_sld dx_232_465).trans ?_
      refine mj_ite ?_ rfl
      refine (sx_aload_n dx_232_466 rfl).trans ?_
      refine (sx_iload_n dx_232_467 rfl).trans ?_
      refine (sx_iconst (v := 2) dx_232_468 rfl).trans ?_
      refine (sx_iadd dx_232_469).trans ?_
      refine (sx_sld dx_232_470).trans ?_
      refine mj_ite ?_ rfl
      refine (sx_v2i dx_232_471 ow_232 cx_10_53 oc_45 (Nat.le_of_ble_eq_true rfl)).trans ?_
      refine mj_bnd (fun q18 => ?_)
      refine (sx_icmp_eq (tgt := 1105) dx_232_474 (by decide)).trans ?_
      refine mj_ite ?_ ?_
      · refine (sx_iinc (v := 6) dx_232_1105 rfl rfl rfl).trans ?_
        refine (sx_goto (tgt := 18) dx_232_1108 (by decide)).trans ?_
        rfl
      · refine (sx_iconst (v := 0) dx_232_477 rfl).trans ?_
        exact sx_retz dx_232_478 rt_232 (by decide)
    refine mj_sel (fun hx1_9 => ?_) (fun hx1_9 => ?_)
    · refine (sx_tsw_in (off := 446) (tgt := 479) dx_232_33 hx1_9 (by decide) (by decide) (by decide)).trans ?_
      refine (sx_aload_n dx_232_479 rfl).trans ?_
      refine (sx_aload_n dx_232_480 rfl).trans ?_
      refine (sx_iload_n dx_232_481 rfl).trans ?_
      refine (sx_iconst (v := 1) dx_232_482 rfl).trans ?_
      refine (sx_iadd dx_232_483).trans ?_
      refine (sx_sld dx_232_484).trans ?_
      refine mj_ite ?_ rfl
      refine (sx_aload_n dx_232_485 rfl).trans ?_
      refine (sx_iload_n dx_232_486 rfl).trans ?_
      refine (sx_iconst (v := 2) dx_232_487 rfl).trans ?_
      refine (sx_iadd dx_232_488).trans ?_
      refine (sx_sld dx_232_489).trans ?_
      refine mj_ite ?_ rfl
      refine (sx_v2i dx_232_490 ow_232 cx_10_54 oc_0 (Nat.le_of_ble_eq_true rfl)).trans ?_
      refine mj_bnd (fun q19 => ?_)
      refine (sx_aload_n dx_232_493 rfl).trans ?_
      refine (sx_aload_n dx_232_494 rfl).trans ?_
      refine (sx_iload_n dx_232_495 rfl).trans ?_
      refine (sx_iconst (v := 1) dx_232_496 rfl).trans ?_
      refine (sx_iadd dx_232_497).trans ?_
      refine (sx_sld dx_232_498).trans ?_
      refine mj_ite ?_ rfl
      refine (sx_aload_n dx_232_499 rfl).trans ?_
      refine (sx_iload_n dx_232_500 rfl).trans ?_
      refine (sx_iconst (v := 2) dx_232_501 rfl).trans ?_
      refine (sx_iadd dx_232_502).trans ?_
      refine (sx_sld dx_232_503).trans ?_
      refine mj_ite ?_ rfl
      refine (sx_v2i dx_232_504 ow_232 cx_10_57 oc_45 (Nat.le_of_ble_eq_true rfl)).trans ?_
      refine mj_bnd (fun q20 => ?_)
      refine (sx_icmp_eq (tgt := 1105) dx_232_507 (by decide)).trans ?_
      refine mj_ite ?_ ?_
      · refine (sx_iinc (v := 6) dx_232_1105 rfl rfl rfl).trans ?_
        refine (sx_goto (tgt := 18) dx_232_1108 (by decide)).trans ?_
        rfl
      · refine (sx_iconst (v := 0) dx_232_510 rfl).trans ?_
        exact sx_retz dx_232_511 rt_232 (by decide)
    refine mj_sel (fun hx1_10 => ?_) (fun hx1_10 => ?_)
    · refine (sx_tsw_in (off := 479) (tgt := 512) dx_232_33 hx1_10 (by decide) (by decide) (by decide)).trans ?_
      refine (sx_aload_n dx_232_512 rfl).trans ?_
      refine (sx_aload_n dx_232_513 rfl).trans ?_
      refine (sx_iload_n dx_232_514 rfl).trans ?_
      refine (sx_iconst (v := 1) dx_232_515 rfl).trans ?_
      refine (sx_iadd dx_232_516).trans ?_
      refine (sx_sld dx_232_517).trans ?_
      refine mj_ite ?_ rfl
      refine (sx_aload_n dx_232_518 rfl).trans ?_
      refine (sx_iload_n dx_232_519 rfl).trans ?_
      refine (sx_iconst (v := 2) dx_232_520 rfl).trans ?_
      refine (sx_iadd dx_232_521).trans ?_
      refine (sx_sld dx_232_522).trans ?_
      refine mj_ite ?_ rfl
      refine (sx_v2i dx_232_523 ow_232 cx_10_58 oc_0 (Nat.le_of_ble_eq_true rfl)).trans ?_
      refine mj_bnd (fun q21 => ?_)
      refine (sx_aload_n dx_232_526 rfl).trans ?_
      refine (sx_aload_n dx_232_527 rfl).trans ?_
      refine (sx_iload_n dx_232_528 rfl).trans ?_
      refine (sx_iconst (v := 1) dx_232_529 rfl).trans ?_
      refine (sx_iadd dx_232_530).trans ?_
      refine (sx_sld dx_232_531).trans ?_
      refine mj_ite ?_ rfl
      refine (sx_aload_n dx_232_532 rfl).trans ?_
      refine (sx_iload_n dx_232_533 rfl).trans ?_
      refine (sx_iconst (v := 2) dx_232_534 rfl).trans ?_
      refine (sx_iadd dx_232_535).trans ?_
      refine (sx_sld dx_232_536).trans ?_
      refine mj_ite ?_ rfl
      refine (sx_v2i dx_232_537 ow_232 cx_10_61 oc_45 (Nat.le_of_ble_eq_true rfl)).trans ?_
      refine mj_bnd (fun q22 => ?_)
      refine (sx_icmp_eq (tgt := 1105) dx_232_540 (by decide)).trans ?_
      refine mj_ite ?_ ?_
      · refine (sx_iinc (v := 6) dx_232_1105 rfl rfl rfl).trans ?_
        refine (sx_goto (tgt := 18) dx_232_1108 (by decide)).trans ?_
        rfl
      · refine (sx_iconst (v := 0) dx_232_543 rfl).trans ?_
        exact sx_retz dx_232_544 rt_232 (by decide)
    refine mj_sel (fun hx1_11 => ?_) (fun hx1_11 => ?_)
    · refine (sx_tsw_in (off := 512) (tgt := 545) dx_232_33 hx1_11 (by decide) (by decide) (by decide)).trans ?_
      refine (sx_aload_n dx_232_545 rfl).trans ?_
      refine (sx_aload_n dx_232_546 rfl).trans ?_
      refine (sx_iload_n dx_232_547 rfl).trans ?_
      refine (sx_iconst (v := 1) dx_232_548 rfl).trans ?_
      refine (sx_iadd dx_232_549).trans ?_
      refine (sx_sld dx_232_550).trans ?_
      refine mj_ite ?_ rfl
      refine (sx_v1i dx_232_551 ow_232 cx_10_62 oc_0 (Nat.le_of_ble_eq_true rfl)).trans ?_
      refine mj_bnd (fun q23 => ?_)
      refine (sx_aload_n dx_232_554 rfl).trans ?_
      refine (sx_aload_n dx_232_555 rfl).trans ?_
      refine (sx_iload_n dx_232_556 rfl).trans ?_
      refine (sx_iconst (v := 1) dx_232_557 rfl).trans ?_
      refine (sx_iadd dx_232_558).trans ?_
      refine (sx_sld dx_232_559).trans ?_
      refine mj_ite ?_ rfl
      refine (sx_v1i dx_232_560 ow_232 cx_10_65 oc_45 (Nat.le_of_ble_eq_true rfl)).trans ?_
      refine mj_bnd (fun q24 => ?_)
      refine (sx_icmp_eq (tgt := 1105) dx_232_563 (by decide)).trans ?_
      refine mj_ite ?_ ?_
      · refine (sx_iinc (v := 6) dx_232_1105 rfl rfl rfl).trans ?_
        refine (sx_goto (tgt := 18) dx_232_1108 (by decide)).trans ?_
        rfl
      · refine (sx_iconst (v := 0) dx_232_566 rfl).trans ?_
        exact sx_retz dx_232_567 rt_232 (by decide)
    refine mj_sel (fun hx1_12 => ?_) (fun hx1_12 => ?_)
    · refine (sx_tsw_in (off := 535) (tgt := 568) dx_232_33 hx1_12 (by decide) (by decide) (by decide)).trans ?_
      refine (sx_aload_n dx_232_568 rfl).trans ?_
      refine (sx_aload_n dx_232_569 rfl).trans ?_
      refine (sx_iload_n dx_232_570 rfl).trans ?_
      refine (sx_iconst (v := 1) dx_232_571 rfl).trans ?_
      refine (sx_iadd dx_232_572).trans ?_
      refine (sx_sld dx_232_573).trans ?_
      refine mj_ite ?_ rfl
      refine (sx_v1i dx_232_574 ow_232 cx_10_66 oc_0 (Nat.le_of_ble_eq_true rfl)).trans ?_
      refine mj_bnd (fun q25 => ?_)
      refine (sx_aload_n dx_232_577 rfl).trans ?_
      refine (sx_aload_n dx_232_578 rfl).trans ?_
      refine (sx_iload_n dx_232_579 rfl).trans ?_
      refine (sx_iconst (v := 1) dx_232_580 rfl).trans ?_
      refine (sx_iadd dx_232_581).trans ?_
      refine (sx_sld dx_232_582).trans ?_
      refine mj_ite ?_ rfl
      refine (sx_v1i dx_232_583 ow_232 cx_10_69 oc_45 (Nat.le_of_ble_eq_true rfl)).trans ?_
      refine mj_bnd (fun q26 => ?_)
      refine (sx_icmp_eq (tgt := 1105) dx_232_586 (by decide)).trans ?_
      refine mj_ite ?_ ?_
      · refine (sx_iinc (v := 6) dx_232_1105 rfl rfl rfl).trans ?_
        refine (sx_goto (tgt := 18) dx_232_1108 (by decide)).trans ?_
        rfl
      · refine (sx_iconst (v := 0) dx_232_589 rfl).trans ?_
        exact sx_retz dx_232_590 rt_232 (by decide)
    refine mj_sel (fun hx1_13 => ?_) (fun hx1_13 => ?_)
    · refine (sx_tsw_in (off := 558) (tgt := 591) dx_232_33 hx1_13 (by decide) (by decide) (by decide)).trans ?_
      refine (sx_aload_n dx_232_591 rfl).trans ?_
      refine (sx_aload_n dx_232_592 rfl).trans ?_
      refine (sx_iload_n dx_232_593 rfl).trans ?_
      refine (sx_iconst (v := 1) dx_232_594 rfl).trans ?_
      refine (sx_iadd dx_232_595).trans ?_
      refine (sx_sld dx_232_596).trans ?_
      refine mj_ite ?_ rfl
      refine (sx_aload_n dx_232_597 rfl).trans ?_
      refine (sx_iload_n dx_232_598 rfl).trans ?_
      refine (sx_iconst (v := 2) dx_232_599 rfl).trans ?_
      refine (sx_iadd dx_232_600).trans ?_
      refine (sx_sld dx_232_601).trans ?_
      refine mj_ite ?_ rfl
      refine (sx_v2i dx_232_602 ow_232 cx_10_70 oc_0 (Nat.le_of_ble_eq_true rfl)).trans ?_
      refine mj_bnd (fun q27 => ?_)
      refine (sx_aload_n dx_232_605 rfl).trans ?_
      refine (sx_aload_n dx_232_606 rfl).trans ?_
      refine (sx_iload_n dx_232_607 rfl).trans ?_
      refine (sx_iconst (v := 1) dx_232_608 rfl).trans ?_
      refine (sx_iadd dx_232_609).trans ?_
      refine (sx_sld dx_232_610).trans ?_
      refine mj_ite ?_ rfl
      refine (sx_aload_n dx_232_611 rfl).trans ?_
      refine (sx_iload_n dx_232_612 rfl).trans ?_
      refine (sx_iconst (v := 2) dx_232_613 rfl).trans ?_
      refine (sx_iadd dx_232_614).trans ?_
      refine (sx_sld dx_232_615).trans ?_
      refine mj_ite ?_ rfl
      refine (sx_v2i dx_232_616 ow_232 cx_10_73 oc_45 (Nat.le_of_ble_eq_true rfl)).trans ?_
      refine mj_bnd (fun q28 => ?_)
      refine (sx_icmp_eq (tgt := 1105) dx_232_619 (by decide)).trans ?_
      refine mj_ite ?_ ?_
      · refine (sx_iinc (v := 6) dx_232_1105 rfl rfl rfl).trans ?_
        refine (sx_goto (tgt := 18) dx_232_1108 (by decide)).trans ?_
        rfl
      · refine (sx_iconst (v := 0) dx_232_622 rfl).trans ?_
        exact sx_retz dx_232_623 rt_232 (by decide)
    refine mj_sel (fun hx1_14 => ?_) (fun hx1_14 => ?_)
    · refine (sx_tsw_in (off := 591) (tgt := 624) dx_232_33 hx1_14 (by decide) (by decide) (by decide)).trans ?_
      refine (sx_aload_n dx_232_624 rfl).trans ?_
      refine (sx_aload_n dx_232_625 rfl).trans ?_
      refine (sx_iload_n dx_232_626 rfl).trans ?_
      refine (sx_iconst (v := 1) dx_232_627 rfl).trans ?_
      refine (sx_iadd dx_232_628).trans ?_
      refine (sx_sld dx_232_629).trans ?_
      refine mj_ite ?_ rfl
      refine (sx_aload_n dx_232_630 rfl).trans ?_
      refine (sx_iload_n dx_232_631 rfl).trans ?_
      refine (sx_iconst (v := 2) dx_232_632 rfl).trans ?_
      refine (sx_iadd dx_232_633).trans ?_
      refine (sx_sld dx_232_634).trans ?_
      refine mj_ite ?_ rfl
      refine (sx_v2i dx_232_635 ow_232 cx_10_74 oc_0 (Nat.le_of_ble_eq_true rfl)).trans ?_
      refine mj_bnd (fun q29 => ?_)
      refine (sx_aload_n dx_232_638 rfl).trans ?_
      refine (sx_aload_n dx_232_639 rfl).trans ?_
      refine (sx_iload_n dx_232_640 rfl).trans ?_
      refine (sx_iconst (v := 1) dx_232_641 rfl).trans ?_
      refine (sx_iadd dx_232_642).trans ?_
      refine (sx_sld dx_232_643).trans ?_
      refine mj_ite ?_ rfl
      refine (sx_aload_n dx_232_644 rfl).trans ?_
      refine (sx_iload_n dx_232_645 rfl).trans ?_
      refine (sx_iconst (v := 2) dx_232_646 rfl).trans ?_
      refine (sx_iadd dx_232_647).trans ?_
      refine (sx_sld dx_232_648).trans ?_
      refine mj_ite ?_ rfl
      refine (sx_v2i dx_232_649 ow_232 cx_10_77 oc_45 (Nat.le_of_ble_eq_true rfl)).trans ?_
      refine mj_bnd (fun q30 => ?_)
      refine (sx_icmp_eq (tgt := 1105) dx_232_652 (by decide)).trans ?_
      refine mj_ite ?_ ?_
      · refine (sx_iinc (v := 6) dx_232_1105 rfl rfl rfl).trans ?_
        refine (sx_goto (tgt := 18) dx_232_1108 (by decide)).trans ?_
        rfl
      · refine (sx_iconst (v := 0) dx_232_655 rfl).trans ?_
        exact sx_retz dx_232_656 rt_232 (by decide)
    refine mj_sel (fun hx1_15 => ?_) (fun hx1_15 => ?_)
    · refine (sx_tsw_in (off := 624) (tgt := 657) dx_232_33 hx1_15 (by decide) (by decide) (by decide)).trans ?_
      refine (sx_aload_n dx_232_657 rfl).trans ?_
      refine (sx_aload_n dx_232_658 rfl).trans ?_
      refine (sx_iload_n dx_232_659 rfl).trans ?_
      refine (sx_iconst (v := 1) dx_232_660 rfl).trans ?_
      refine (sx_iadd dx_232_661).trans ?_
      refine (sx_sld dx_232_662).trans ?_
      refine mj_ite ?_ rfl
      refine (sx_aload_n dx_232_663 rfl).trans ?_
      refine (sx_iload_n dx_232_664 rfl).trans ?_
      refine (sx_iconst (v := 2) dx_232_665 rfl).trans ?_
      refine (sx_iadd dx_232_666).trans ?_
      refine (sx_sld dx_232_667).trans ?_
      refine mj_ite ?_ rfl
      refine (sx_v2i dx_232_668 ow_232 cx_10_78 oc_0 (Nat.le_of_ble_eq_true rfl)).trans ?_
      refine mj_bnd (fun q31 => ?_)
      refine (sx_aload_n dx_232_671 rfl).trans ?_
      refine (sx_aload_n dx_232_672 rfl).trans ?_
      refine (sx_iload_n dx_232_673 rfl).trans ?_
      refine (sx_iconst (v := 1) dx_232_674 rfl).trans ?_
      refine (sx_iadd dx_232_675).trans ?_
      refine (sx_sld dx_232_676).trans ?_
      refine mj_ite ?_ rfl
      refine (sx_aload_n dx_232_677 rfl).trans ?_
      refine (sx_iload_n dx_232_678 rfl).trans ?_
      refine (sx_iconst (v := 2) dx_232_679 rfl).trans ?_
      refine (sx_iadd dx_232_680).trans ?_
      refine (sx_sld dx_232_681).trans ?_
      refine mj_ite ?_ rfl
      refine (sx_v2i dx_232_682 ow_232 cx_10_81 oc_45 (Nat.le_of_ble_eq_true rfl)).trans ?_
      refine mj_bnd (fun q32 => ?_)
      refine (sx_icmp_eq (tgt := 1105) dx_232_685 (by decide)).trans ?_
      refine mj_ite ?_ ?_
      · refine (sx_iinc (v := 6) dx_232_1105 rfl rfl rfl).trans ?_
        refine (sx_goto (tgt := 18) dx_232_1108 (by decide)).trans ?_
        rfl
      · refine (sx_iconst (v := 0) dx_232_688 rfl).trans ?_
        exact sx_retz dx_232_689 rt_232 (by decide)
    refine mj_sel (fun hx1_16 => ?_) (fun hx1_16 => ?_)
    · refine (sx_tsw_in (off := 657) (tgt := 690) dx_232_33 hx1_16 (by decide) (by decide) (by decide)).trans ?_
      refine (sx_aload_n dx_232_690 rfl).trans ?_
      refine (sx_aload_n dx_232_691 rfl).trans ?_
      refine (sx_iload_n dx_232_692 rfl).trans ?_
      refine (sx_iconst (v := 1) dx_232_693 rfl).trans ?_
      refine (sx_iadd dx_232_694).trans ?_
      refine (sx_sld dx_232_695).trans ?_
      refine mj_ite ?_ rfl
      refine (sx_aload_n dx_232_696 rfl).trans ?_
      refine (sx_iload_n dx_232_697 rfl).trans ?_
      refine (sx_iconst (v := 2) dx_232_698 rfl).trans ?_
      refine (sx_iadd dx_232_699).trans ?_
      refine (sx_sld dx_232_700).trans ?_
      refine mj_ite ?_ rfl
      refine (sx_aload_n dx_232_701 rfl).trans ?_
      refine (sx_iload_n dx_232_702 rfl).trans ?_
      refine (sx_iconst (v := 3) dx_232_703 rfl).trans ?_
      refine (sx_iadd dx_232_704).trans ?_
      refine (sx_sld dx_232_705).trans ?_
      refine mj_ite ?_ rfl
      refine (sx_v3i dx_232_706 ow_232 cx_10_82 oc_0 (Nat.le_of_ble_eq_true rfl)).trans ?_
      refine mj_bnd (fun q33 => ?_)
      refine (sx_aload_n dx_232_709 rfl).trans ?_
      refine (sx_aload_n dx_232_710 rfl).trans ?_
      refine (sx_iload_n dx_232_711 rfl).trans ?_
      refine (sx_iconst (v := 1) dx_232_712 rfl).trans ?_
      refine (sx_iadd dx_232_713).trans ?_
      refine (sx_sld dx_232_714).trans ?_
      refine mj_ite ?_ rfl
      refine (sx_aload_n dx_232_715 rfl).trans ?_
      refine (sx_iload_n dx_232_716 rfl).trans ?_
      refine (sx_iconst (v := 2) dx_232_717 rfl).trans ?_
      refine (sx_iadd dx_232_718).trans ?_
      refine (sx_sld dx_232_719).trans ?_
      refine mj_ite ?_ rfl
      refine (sx_aload_n dx_232_720 rfl).trans ?_
      refine (sx_iload_n dx_232_721 rfl).trans ?_
      refine (sx_iconst (v := 3) dx_232_722 rfl).trans ?_
      refine (sx_iadd dx_232_723).trans ?_
      refine (sx_sld dx_232_724).trans ?_
      refine mj_ite ?_ rfl
      refine (sx_v3i dx_232_725 ow_232 cx_10_86 oc_45 (Nat.le_of_ble_eq_true rfl)).trans ?_
      refine mj_bnd (fun q34 => ?_)
      refine (sx_icmp_eq (tgt := 1105) dx_232_728 (by decide)).trans ?_
      refine mj_ite ?_ ?_
      · refine (sx_iinc (v := 6) dx_232_1105 rfl rfl rfl).trans ?_
        refine (sx_goto (tgt := 18) dx_232_1108 (by decide)).trans ?_
        rfl
      · refine (sx_iconst (v := 0) dx_232_731 rfl).trans ?_
        exact sx_retz dx_232_732 rt_232 (by decide)
    refine mj_sel (fun hx1_17 => ?_) (fun hx1_17 => ?_)
    · refine (sx_tsw_in (off := 700) (tgt := 733) dx_232_33 hx1_17 (by decide) (by decide) (by decide)).trans ?_
      refine (sx_aload_n dx_232_733 rfl).trans ?_
      refine (sx_aload_n dx_232_734 rfl).trans ?_
      refine (sx_iload_n dx_232_735 rfl).trans ?_
      refine (sx_iconst (v := 1) dx_232_736 rfl).trans ?_
      refine (sx_iadd dx_232_737).trans ?_
      refine (sx_sld dx_232_738).trans ?_
      refine mj_ite ?_ rfl
      refine (sx_aload_n dx_232_739 rfl).trans ?_
      refine (sx_iload_n dx_232_740 rfl).trans ?_
      refine (sx_iconst (v := 2) dx_232_741 rfl).trans ?_
      refine (sx_iadd dx_232_742).trans ?_
      refine (sx_sld dx_232_743).trans ?_
      refine mj_ite ?_ rfl
      refine (sx_v2i dx_232_744 ow_232 cx_10_87 oc_0 (Nat.le_of_ble_eq_true rfl)).trans ?_
      refine mj_bnd (fun q35 => ?_)
      refine (sx_aload_n dx_232_747 rfl).trans ?_
      refine (sx_aload_n dx_232_748 rfl).trans ?_
      refine (sx_iload_n dx_232_749 rfl).trans ?_
      refine (sx_iconst (v := 1) dx_232_750 rfl).trans ?_
      refine (sx_iadd dx_232_751).trans ?_
      refine (sx_sld dx_232_752).trans ?_
      refine mj_ite ?_ rfl
      refine (sx_aload_n dx_232_753 rfl).trans ?_
      refine (sx_iload_n dx_232_754 rfl).trans ?_
      refine (sx_iconst (v := 2) dx_232_755 rfl).trans ?_
      refine (sx_iadd dx_232_756).trans ?_
      refine (sx_sld dx_232_757).trans ?_
      refine mj_ite ?_ rfl
      refine (sx_v2i dx_232_758 ow_232 cx_10_90 oc_45 (Nat.le_of_ble_eq_true rfl)).trans ?_
      refine mj_bnd (fun q36 => ?_)
      refine (sx_icmp_eq (tgt := 1105) dx_232_761 (by decide)).trans ?_
      refine mj_ite ?_ ?_
      · refine (sx_iinc (v := 6) dx_232_1105 rfl rfl rfl).trans ?_
        refine (sx_goto (tgt := 18) dx_232_1108 (by decide)).trans ?_
        rfl
      · refine (sx_iconst (v := 0) dx_232_764 rfl).trans ?_
        exact sx_retz dx_232_765 rt_232 (by decide)
    refine mj_sel (fun hx1_18 => ?_) (fun hx1_18 => ?_)
    · refine (sx_tsw_in (off := 733) (tgt := 766) dx_232_33 hx1_18 (by decide) (by decide) (by decide)).trans ?_
      refine (sx_aload_n dx_232_766 rfl).trans ?_
      refine (sx_aload_n dx_232_767 rfl).trans ?_
      refine (sx_iload_n dx_232_768 rfl).trans ?_
      refine (sx_iconst (v := 1) dx_232_769 rfl).trans ?_
      refine (sx_iadd dx_232_770).trans ?_
      refine (sx_sld dx_232_771).trans ?_
      refine mj_ite ?_ rfl
      refine (sx_aload_n dx_232_772 rfl).trans ?_
      refine (sx_iload_n dx_232_773 rfl).trans ?_
      refine (sx_iconst (v := 2) dx_232_774 rfl).trans ?_
      refine (sx_iadd dx_232_775).trans ?_
      refine (sx_sld dx_232_776).trans ?_
      refine mj_ite ?_ rfl
      refine (sx_v2i dx_232_777 ow_232 cx_10_91 oc_0 (Nat.le_of_ble_eq_true rfl)).trans ?_
      refine mj_bnd (fun q37 => ?_)
      refine (sx_aload_n dx_232_780 rfl).trans ?_
      refine (sx_aload_n dx_232_781 rfl).trans ?_
      refine (sx_iload_n dx_232_782 rfl).trans ?_
      refine (sx_iconst (v := 1) dx_232_783 rfl).trans ?_
      refine (sx_iadd dx_232_784).trans ?_
      refine (sx_sld dx_232_785).trans ?_
      refine mj_ite ?_ rfl
      refine (sx_aload_n dx_232_786 rfl).trans ?_
      refine (sx_iload_n dx_232_787 rfl).trans ?_
      refine (sx_iconst (v := 2) dx_232_788 rfl).trans ?_
      refine (sx_iadd dx_232_789).trans ?_
      refine (sx_sld dx_232_790).trans ?_
      refine mj_ite ?_ rfl
      refine (sx_v2i dx_232_791 ow_232 cx_10_94 oc_45 (Nat.le_of_ble_eq_true rfl)).trans ?_
      refine mj_bnd (fun q38 => ?_)
      refine (sx_icmp_eq (tgt := 1105) dx_232_794 (by decide)).trans ?_
      refine mj_ite ?_ ?_
      · refine (sx_iinc (v := 6) dx_232_1105 rfl rfl rfl).trans ?_
        refine (sx_goto (tgt := 18) dx_232_1108 (by decide)).trans ?_
        rfl
      · refine (sx_iconst (v := 0) dx_232_797 rfl).trans ?_
        exact sx_retz dx_232_798 rt_232 (by decide)
    refine mj_sel (fun hx1_19 => ?_) (fun hx1_19 => ?_)
    · refine (sx_tsw_in (off := 766) (tgt := 799) dx_232_33 hx1_19 (by decide) (by decide) (by decide)).trans ?_
      refine (sx_aload_n dx_232_799 rfl).trans ?_
      refine (sx_aload_n dx_232_800 rfl).trans ?_
      refine (sx_iload_n dx_232_801 rfl).trans ?_
      refine (sx_iconst (v := 1) dx_232_802 rfl).trans ?_
      refine (sx_iadd dx_232_803).trans ?_
      refine (sx_sld dx_232_804).trans ?_
      refine mj_ite ?_ rfl
      refine (sx_aload_n dx_232_805 rfl).trans ?_
      refine (sx_iload_n dx_232_806 rfl).trans ?_
      refine (sx_iconst (v := 2) dx_232_807 rfl).trans ?_
      refine (sx_iadd dx_232_808).trans ?_
      refine (sx_sld dx_232_809).trans ?_
      refine mj_ite ?_ rfl
      refine (sx_v2i dx_232_810 ow_232 cx_10_95 oc_0 (Nat.le_of_ble_eq_true rfl)).trans ?_
      refine mj_bnd (fun q39 => ?_)
      refine (sx_aload_n dx_232_813 rfl).trans ?_
      refine (sx_aload_n dx_232_814 rfl).trans ?_
      refine (sx_iload_n dx_232_815 rfl).trans ?_
      refine (sx_iconst (v := 1) dx_232_816 rfl).trans ?_
      refine (sx_iadd dx_232_817).trans ?_
      refine (sx_sld dx_232_818).trans ?_
      refine mj_ite ?_ rfl
      refine (sx_aload_n dx_232_819 rfl).trans ?_
      refine (sx_iload_n dx_232_820 rfl).trans ?_
      refine (sx_iconst (v := 2) dx_232_821 rfl).trans ?_
      refine (sx_iadd dx_232_822).trans ?_
      refine (sx_sld dx_232_823).trans ?_
      refine mj_ite ?_ rfl
      refine (sx_v2i dx_232_824 ow_232 cx_10_98 oc_45 (Nat.le_of_ble_eq_true rfl)).trans ?_
      refine mj_bnd (fun q40 => ?_)
      refine (sx_icmp_eq (tgt := 1105) dx_232_827 (by decide)).trans ?_
      refine mj_ite ?_ ?_
      · refine (sx_iinc (v := 6) dx_232_1105 rfl rfl rfl).trans ?_
        refine (sx_goto (tgt := 18) dx_232_1108 (by decide)).trans ?_
        rfl
      · refine (sx_iconst (v := 0) dx_232_830 rfl).trans ?_
        exact sx_retz dx_232_831 rt_232 (by decide)
    refine mj_sel (fun hx1_20 => ?_) (fun hx1_20 => ?_)
    · refine (sx_tsw_in (off := 799) (tgt := 832) dx_232_33 hx1_20 (by decide) (by decide) (by decide)).trans ?_
      refine (sx_aload_n dx_232_832 rfl).trans ?_
      refine (sx_aload_n dx_232_833 rfl).trans ?_
      refine (sx_iload_n dx_232_834 rfl).trans ?_
      refine (sx_iconst (v := 1) dx_232_835 rfl).trans ?_
      refine (sx_iadd dx_232_836).trans ?_
      refine (sx_sld dx_232_837).trans ?_
      refine mj_ite ?_ rfl
      refine (sx_aload_n dx_232_838 rfl).trans ?_
      refine (sx_iload_n dx_232_839 rfl).trans ?_
      refine (sx_iconst (v := 2) dx_232_840 rfl).trans ?_
      refine (sx_iadd dx_232_841).trans ?_
      refine (sx_sld dx_232_842).trans ?_
      refine mj_ite ?_ rfl
      refine (sx_v2i dx_232_843 ow_232 cx_10_99 oc_0 (Nat.le_of_ble_eq_true rfl)).trans ?_
      refine mj_bnd (fun q41 => ?_)
      refine (sx_aload_n dx_232_846 rfl).trans ?_
      refine (sx_aload_n dx_232_847 rfl).trans ?_
      refine (sx_iload_n dx_232_848 rfl).trans ?_
      refine (sx_iconst (v := 1) dx_232_849 rfl).trans ?_
      refine (sx_iadd dx_232_850).trans ?_
      refine (sx_sld dx_232_851).trans ?_
      refine mj_ite ?_ rfl
      refine (sx_aload_n dx_232_852 rfl).trans ?_
      refine (sx_iload_n dx_232_853 rfl).trans ?_
      refine (sx_iconst (v := 2) dx_232_854 rfl).trans ?_
      refine (sx_iadd dx_232_855).trans ?_
      refine (sx_sld dx_232_856).trans ?_
      refine mj_ite ?_ rfl
      refine (sx_v2i dx_232_857 ow_232 cx_10_102 oc_45 (Nat.le_of_ble_eq_true rfl)).trans ?_
      refine mj_bnd (fun q42 => ?_)
      refine (sx_icmp_eq (tgt := 1105) dx_232_860 (by decide)).trans ?_
      refine mj_ite ?_ ?_
      · refine (sx_iinc (v := 6) dx_232_1105 rfl rfl rfl).trans ?_
        refine (sx_goto (tgt := 18) dx_232_1108 (by decide)).trans ?_
        rfl
      · refine (sx_iconst (v := 0) dx_232_863 rfl).trans ?_
        exact sx_retz dx_232_864 rt_232 (by decide)
    refine mj_sel (fun hx1_21 => ?_) (fun hx1_21 => ?_)
    · refine (sx_tsw_in (off := 832) (tgt := 865) dx_232_33 hx1_21 (by decide) (by decide) (by decide)).trans ?_
      refine (sx_aload_n dx_232_865 rfl).trans ?_
      refine (sx_v0i dx_232_866 ow_232 cx_10_103 oc_0 (Nat.le_of_ble_eq_true rfl)).trans ?_
      refine mj_bnd (fun q43 => ?_)
      refine (sx_aload_n dx_232_869 rfl).trans ?_
      refine (sx_v0i dx_232_870 ow_232 cx_10_107 oc_45 (Nat.le_of_ble_eq_true rfl)).trans ?_
      refine mj_bnd (fun q44 => ?_)
      refine (sx_icmp_eq (tgt := 1105) dx_232_873 (by decide)).trans ?_
      refine mj_ite ?_ ?_
      · refine (sx_iinc (v := 6) dx_232_1105 rfl rfl rfl).trans ?_
        refine (sx_goto (tgt := 18) dx_232_1108 (by decide)).trans ?_
        rfl
      · refine (sx_iconst (v := 0) dx_232_876 rfl).trans ?_
        exact sx_retz dx_232_877 rt_232 (by decide)
    refine mj_sel (fun hx1_22 => ?_) (fun hx1_22 => ?_)
    · refine (sx_tsw_in (off := 845) (tgt := 878) dx_232_33 hx1_22 (by decide) (by decide) (by decide)).trans ?_
      refine (sx_aload_n dx_232_878 rfl).trans ?_
      refine (sx_aload_n dx_232_879 rfl).trans ?_
      refine (sx_iload_n dx_232_880 rfl).trans ?_
      refine (sx_iconst (v := 1) dx_232_881 rfl).trans ?_
      refine (sx_iadd dx_232_882).trans ?_
      refine (sx_sld dx_232_883).trans ?_
      refine mj_ite ?_ rfl
      refine (sx_aload_n dx_232_884 rfl).trans ?_
      refine (sx_iload_n dx_232_885 rfl).trans ?_
      refine (sx_iconst (v := 2) dx_232_886 rfl).trans ?_
      refine (sx_iadd dx_232_887).trans ?_
      refine (sx_sld dx_232_888).trans ?_
      refine mj_ite ?_ rfl
      refine (sx_v2i dx_232_889 ow_232 cx_10_108 oc_0 (Nat.le_of_ble_eq_true rfl)).trans ?_
      refine mj_bnd (fun q45 => ?_)
      refine (sx_aload_n dx_232_892 rfl).trans ?_
      refine (sx_aload_n dx_232_893 rfl).trans ?_
      refine (sx_iload_n dx_232_894 rfl).trans ?_
      refine (sx_iconst (v := 1) dx_232_895 rfl).trans ?_
      refine (sx_iadd dx_232_896).trans ?_
      refine (sx_sld dx_232_897).trans ?_
      refine mj_ite ?_ rfl
      refine (sx_aload_n dx_232_898 rfl).trans ?_
      refine (sx_iload_n dx_232_899 rfl).trans ?_
      refine (sx_iconst (v := 2) dx_232_900 rfl).trans ?_
      refine (sx_iadd dx_232_901).trans ?_
      refine (sx_sld dx_232_902).trans ?_
      refine mj_ite ?_ rfl
      refine (sx_v2i dx_232_903 ow_232 cx_10_111 oc_45 (Nat.le_of_ble_eq_true rfl)).trans ?_
      refine mj_bnd (fun q46 => ?_)
      refine (sx_icmp_eq (tgt := 1105) dx_232_906 (by decide)).trans ?_
      refine mj_ite ?_ ?_
      · refine (sx_iinc (v := 6) dx_232_1105 rfl rfl rfl).trans ?_
        refine (sx_goto (tgt := 18) dx_232_1108 (by decide)).trans ?_
        rfl
      · refine (sx_iconst (v := 0) dx_232_909 rfl).trans ?_
        exact sx_retz dx_232_910 rt_232 (by decide)
    refine mj_sel (fun hx1_23 => ?_) (fun hx1_23 => ?_)
    · refine (sx_tsw_in (off := 878) (tgt := 911) dx_232_33 hx1_23 (by decide) (by decide) (by decide)).trans ?_
      refine (sx_aload_n dx_232_911 rfl).trans ?_
      refine (sx_aload_n dx_232_912 rfl).trans ?_
      refine (sx_iload_n dx_232_913 rfl).trans ?_
      refine (sx_iconst (v := 1) dx_232_914 rfl).trans ?_
      refine (sx_iadd dx_232_915).trans ?_
      refine (sx_sld dx_232_916).trans ?_
      refine mj_ite ?_ rfl
      refine (sx_aload_n dx_232_917 rfl).trans ?_
      refine (sx_iload_n dx_232_918 rfl).trans ?_
      refine (sx_iconst (v := 2) dx_232_919 rfl).trans ?_
      refine (sx_iadd dx_232_920).trans ?_
      refine (sx_sld dx_232_921).trans ?_
      refine mj_ite ?_ rfl
      refine (sx_v2i dx_232_922 ow_232 cx_10_112 oc_0 (Nat.le_of_ble_eq_true rfl)).trans ?_
      refine mj_bnd (fun q47 => ?_)
      refine (sx_aload_n dx_232_925 rfl).trans ?_
      refine (sx_aload_n dx_232_926 rfl).trans ?_
      refine (sx_iload_n dx_232_927 rfl).trans ?_
      refine (sx_iconst (v := 1) dx_232_928 rfl).trans ?_
      refine (sx_iadd dx_232_929).trans ?_
      refine (sx_sld dx_232_930).trans ?_
      refine mj_ite ?_ rfl
      refine (sx_aload_n dx_232_931 rfl).trans ?_
      refine (sx_iload_n dx_232_932 rfl).trans ?_
      refine (sx_iconst (v := 2) dx_232_933 rfl).trans ?_
      refine (sx_iadd dx_232_934).trans ?_
      refine (sx_sld dx_232_935).trans ?_
      refine mj_ite ?_ rfl
      refine (sx_v2i dx_232_936 ow_232 cx_10_115 oc_45 (Nat.le_of_ble_eq_true rfl)).trans ?_
      refine mj_bnd (fun q48 => ?_)
      refine (sx_icmp_eq (tgt := 1105) dx_232_939 (by decide)).trans ?_
      refine mj_ite ?_ ?_
      · refine (sx_iinc (v := 6) dx_232_1105 rfl rfl rfl).trans ?_
        refine (sx_goto (tgt := 18) dx_232_1108 (by decide)).trans ?_
        rfl
      · refine (sx_iconst (v := 0) dx_232_942 rfl).trans ?_
        exact sx_retz dx_232_943 rt_232 (by decide)
    refine mj_sel (fun hx1_24 => ?_) (fun hx1_24 => ?_)
    · refine (sx_tsw_in (off := 911) (tgt := 944) dx_232_33 hx1_24 (by decide) (by decide) (by decide)).trans ?_
      refine (sx_aload_n dx_232_944 rfl).trans ?_
      refine (sx_aload_n dx_232_945 rfl).trans ?_
      refine (sx_iload_n dx_232_946 rfl).trans ?_
      refine (sx_iconst (v := 1) dx_232_947 rfl).trans ?_
      refine (sx_iadd dx_232_948).trans ?_
      refine (sx_sld dx_232_949).trans ?_
      refine mj_ite ?_ rfl
      refine (sx_aload_n dx_232_950 rfl).trans ?_
      refine (sx_iload_n dx_232_951 rfl).trans ?_
      refine (sx_iconst (v := 2) dx_232_952 rfl).trans ?_
      refine (sx_iadd dx_232_953).trans ?_
      refine (sx_sld dx_232_954).trans ?_
      refine mj_ite ?_ rfl
      refine (sx_v2i dx_232_955 ow_232 cx_10_116 oc_0 (Nat.le_of_ble_eq_true rfl)).trans ?_
      refine mj_bnd (fun q49 => ?_)
      refine (sx_aload_n dx_232_958 rfl).trans ?_
      refine (sx_aload_n dx_232_959 rfl).trans ?_
      refine (sx_iload_n dx_232_960 rfl).trans ?_
      refine (sx_iconst (v := 1) dx_232_961 rfl).trans ?_
      refine (sx_iadd dx_232_962).trans ?_
      refine (sx_sld dx_232_963).trans ?_
      refine mj_ite ?_ rfl
      refine (sx_aload_n dx_232_964 rfl).trans ?_
      refine (sx_iload_n dx_232_965 rfl).trans ?_
      refine (sx_iconst (v := 2) dx_232_966 rfl).trans ?_
      refine (sx_iadd dx_232_967).trans ?_
      refine (sx_sld dx_232_968).trans ?_
      refine mj_ite ?_ rfl
      refine (sx_v2i dx_232_969 ow_232 cx_10_119 oc_45 (Nat.le_of_ble_eq_true rfl)).trans ?_
      refine mj_bnd (fun q50 => ?_)
      refine (sx_icmp_eq (tgt := 1105) dx_232_972 (by decide)).trans ?_
      refine mj_ite ?_ ?_
      · refine (sx_iinc (v := 6) dx_232_1105 rfl rfl rfl).trans ?_
        refine (sx_goto (tgt := 18) dx_232_1108 (by decide)).trans ?_
        rfl
      · refine (sx_iconst (v := 0) dx_232_975 rfl).trans ?_
        exact sx_retz dx_232_976 rt_232 (by decide)
    refine mj_sel (fun hx1_25 => ?_) (fun hx1_25 => ?_)
    · refine (sx_tsw_in (off := 944) (tgt := 977) dx_232_33 hx1_25 (by decide) (by decide) (by decide)).trans ?_
      refine (sx_aload_n dx_232_977 rfl).trans ?_
      refine (sx_aload_n dx_232_978 rfl).trans ?_
      refine (sx_iload_n dx_232_979 rfl).trans ?_
      refine (sx_iconst (v := 1) dx_232_980 rfl).trans ?_
      refine (sx_iadd dx_232_981).trans ?_
      refine (sx_sld dx_232_982).trans ?_
      refine mj_ite ?_ rfl
      refine (sx_aload_n dx_232_983 rfl).trans ?_
      refine (sx_iload_n dx_232_984 rfl).trans ?_
      refine (sx_iconst (v := 2) dx_232_985 rfl).trans ?_
      refine (sx_iadd dx_232_986).trans ?_
      refine (sx_sld dx_232_987).trans ?_
      refine mj_ite ?_ rfl
      refine (sx_v2i dx_232_988 ow_232 cx_10_120 oc_0 (Nat.le_of_ble_eq_true rfl)).trans ?_
      refine mj_bnd (fun q51 => ?_)
      refine (sx_aload_n dx_232_991 rfl).trans ?_
      refine (sx_aload_n dx_232_992 rfl).trans ?_
      refine (sx_iload_n dx_232_993 rfl).trans ?_
      refine (sx_iconst (v := 1) dx_232_994 rfl).trans ?_
      refine (sx_iadd dx_232_995).trans ?_
      refine (sx_sld dx_232_996).trans ?_
      refine mj_ite ?_ rfl
      refine (sx_aload_n dx_232_997 rfl).trans ?_
      refine (sx_iload_n dx_232_998 rfl).trans ?_
      refine (sx_iconst (v := 2) dx_232_999 rfl).trans ?_
      refine (sx_iadd dx_232_1000).trans ?_
      refine (sx_sld dx_232_1001).trans ?_
      refine mj_ite ?_ rfl
      refine (sx_v2i dx_232_1002 ow_232 cx_10_123 oc_45 (Nat.le_of_ble_eq_true rfl)).trans ?_
      refine mj_bnd (fun q52 => ?_)
      refine (sx_icmp_eq (tgt := 1105) dx_232_1005 (by decide)).trans ?_
      refine mj_ite ?_ ?_
      · refine (sx_iinc (v := 6) dx_232_1105 rfl rfl rfl).trans ?_
        refine (sx_goto (tgt := 18) dx_232_1108 (by decide)).trans ?_
        rfl
      · refine (sx_iconst (v := 0) dx_232_1008 rfl).trans ?_
        exact sx_retz dx_232_1009 rt_232 (by decide)
    refine mj_sel (fun hx1_26 => ?_) (fun hx1_26 => ?_)
    · refine (sx_tsw_in (off := 977) (tgt := 1010) dx_232_33 hx1_26 (by decide) (by decide) (by decide)).trans ?_
      refine (sx_aload_n dx_232_1010 rfl).trans ?_
      refine (sx_aload_n dx_232_1011 rfl).trans ?_
      refine (sx_iload_n dx_232_1012 rfl).trans ?_
      refine (sx_iconst (v := 1) dx_232_1013 rfl).trans ?_
      refine (sx_iadd dx_232_1014).trans ?_
      refine (sx_sld dx_232_1015).trans ?_
      refine mj_ite ?_ rfl
      refine (sx_v1i dx_232_1016 ow_232 cx_10_124 oc_0 (Nat.le_of_ble_eq_true rfl)).trans ?_
      refine mj_bnd (fun q53 => ?_)
      refine (sx_aload_n dx_232_1019 rfl).trans ?_
      refine (sx_aload_n dx_232_1020 rfl).trans ?_
      refine (sx_iload_n dx_232_1021 rfl).trans ?_
      refine (sx_iconst (v := 1) dx_232_1022 rfl).trans ?_
      refine (sx_iadd dx_232_1023).trans ?_
      refine (sx_sld dx_232_1024).trans ?_
      refine mj_ite ?_ rfl
      refine (sx_v1i dx_232_1025 ow_232 cx_10_128 oc_45 (Nat.le_of_ble_eq_true rfl)).trans ?_
      refine mj_bnd (fun q54 => ?_)
      refine (sx_icmp_eq (tgt := 1105) dx_232_1028 (by decide)).trans ?_
      refine mj_ite ?_ ?_
      · refine (sx_iinc (v := 6) dx_232_1105 rfl rfl rfl).trans ?_
        refine (sx_goto (tgt := 18) dx_232_1108 (by decide)).trans ?_
        rfl
      · refine (sx_iconst (v := 0) dx_232_1031 rfl).trans ?_
        exact sx_retz dx_232_1032 rt_232 (by decide)
    refine mj_sel (fun hx1_27 => ?_) (fun hx1_27 => ?_)
    · refine (sx_tsw_in (off := 1000) (tgt := 1033) dx_232_33 hx1_27 (by decide) (by decide) (by decide)).trans ?_
      refine (sx_aload_n dx_232_1033 rfl).trans ?_
      refine (sx_v0i dx_232_1034 ow_232 cx_10_129 oc_0 (Nat.le_of_ble_eq_true rfl)).trans ?_
      refine mj_bnd (fun q55 => ?_)
      refine (sx_aload_n dx_232_1037 rfl).trans ?_
      refine (sx_v0i dx_232_1038 ow_232 cx_10_132 oc_45 (Nat.le_of_ble_eq_true rfl)).trans ?_
      refine mj_bnd (fun q56 => ?_)
      refine (sx_icmp_eq (tgt := 1105) dx_232_1041 (by decide)).trans ?_
      refine mj_ite ?_ ?_
      · refine (sx_iinc (v := 6) dx_232_1105 rfl rfl rfl).trans ?_
        refine (sx_goto (tgt := 18) dx_232_1108 (by decide)).trans ?_
        rfl
      · refine (sx_iconst (v := 0) dx_232_1044 rfl).trans ?_
        exact sx_retz dx_232_1045 rt_232 (by decide)
    refine mj_sel (fun hx1_28 => ?_) (fun hx1_28 => ?_)
    · refine (sx_tsw_in (off := 1013) (tgt := 1046) dx_232_33 hx1_28 (by decide) (by decide) (by decide)).trans ?_
      refine (sx_aload_n dx_232_1046 rfl).trans ?_
      refine (sx_v0i dx_232_1047 ow_232 cx_10_133 oc_0 (Nat.le_of_ble_eq_true rfl)).trans ?_
      refine mj_bnd (fun q57 => ?_)
      refine (sx_aload_n dx_232_1050 rfl).trans ?_
      refine (sx_v0i dx_232_1051 ow_232 cx_10_137 oc_45 (Nat.le_of_ble_eq_true rfl)).trans ?_
      refine mj_bnd (fun q58 => ?_)
      refine (sx_icmp_eq (tgt := 1105) dx_232_1054 (by decide)).trans ?_
      refine mj_ite ?_ ?_
      · refine (sx_iinc (v := 6) dx_232_1105 rfl rfl rfl).trans ?_
        refine (sx_goto (tgt := 18) dx_232_1108 (by decide)).trans ?_
        rfl
      · refine (sx_iconst (v := 0) dx_232_1057 rfl).trans ?_
        exact sx_retz dx_232_1058 rt_232 (by decide)
    refine mj_sel (fun hx1_29 => ?_) (fun hx1_29 => ?_)
    · refine (sx_tsw_in (off := 1026) (tgt := 1059) dx_232_33 hx1_29 (by decide) (by decide) (by decide)).trans ?_
      refine (sx_aload_n dx_232_1059 rfl).trans ?_
      refine (sx_aload_n dx_232_1060 rfl).trans ?_
      refine (sx_iload_n dx_232_1061 rfl).trans ?_
      refine (sx_iconst (v := 1) dx_232_1062 rfl).trans ?_
      refine (sx_iadd dx_232_1063).trans ?_
      refine (sx_sld dx_232_1064).trans ?_
      refine mj_ite ?_ rfl
      refine (sx_v1i dx_232_1065 ow_232 cx_10_138 oc_0 (Nat.le_of_ble_eq_true rfl)).trans ?_
      refine mj_bnd (fun q59 => ?_)
      refine (sx_aload_n dx_232_1068 rfl).trans ?_
      refine (sx_aload_n dx_232_1069 rfl).trans ?_
      refine (sx_iload_n dx_232_1070 rfl).trans ?_
      refine (sx_iconst (v := 1) dx_232_1071 rfl).trans ?_
      refine (sx_iadd dx_232_1072).trans ?_
      refine (sx_sld dx_232_1073).trans ?_
      refine mj_ite ?_ rfl
      refine (sx_v1i dx_232_1074 ow_232 cx_10_141 oc_45 (Nat.le_of_ble_eq_true rfl)).trans ?_
      refine mj_bnd (fun q60 => ?_)
      refine (sx_icmp_eq (tgt := 1105) dx_232_1077 (by decide)).trans ?_
      refine mj_ite ?_ ?_
      · refine (sx_iinc (v := 6) dx_232_1105 rfl rfl rfl).trans ?_
        refine (sx_goto (tgt := 18) dx_232_1108 (by decide)).trans ?_
        rfl
      · refine (sx_iconst (v := 0) dx_232_1080 rfl).trans ?_
        exact sx_retz dx_232_1081 rt_232 (by decide)
    refine mj_sel (fun hx1_30 => ?_) (fun hx1_30 => ?_)
    · refine (sx_tsw_in (off := 1049) (tgt := 1082) dx_232_33 hx1_30 (by decide) (by decide) (by decide)).trans ?_
      refine (sx_aload_n dx_232_1082 rfl).trans ?_
      refine (sx_aload_n dx_232_1083 rfl).trans ?_
      refine (sx_iload_n dx_232_1084 rfl).trans ?_
      refine (sx_iconst (v := 1) dx_232_1085 rfl).trans ?_
      refine (sx_iadd dx_232_1086).trans ?_
      refine (sx_sld dx_232_1087).trans ?_
      refine mj_ite ?_ rfl
      refine (sx_v1i dx_232_1088 ow_232 cx_10_142 oc_0 (Nat.le_of_ble_eq_true rfl)).trans ?_
      refine mj_bnd (fun q61 => ?_)
      refine (sx_aload_n dx_232_1091 rfl).trans ?_
      refine (sx_aload_n dx_232_1092 rfl).trans ?_
      refine (sx_iload_n dx_232_1093 rfl).trans ?_
      refine (sx_iconst (v := 1) dx_232_1094 rfl).trans ?_
      refine (sx_iadd dx_232_1095).trans ?_
      refine (sx_sld dx_232_1096).trans ?_
      refine mj_ite ?_ rfl
      refine (sx_v1i dx_232_1097 ow_232 cx_10_145 oc_45 (Nat.le_of_ble_eq_true rfl)).trans ?_
      refine mj_bnd (fun q62 => ?_)
      refine (sx_icmp_eq (tgt := 1105) dx_232_1100 (by decide)).trans ?_
      refine mj_ite ?_ ?_
      · refine (sx_iinc (v := 6) dx_232_1105 rfl rfl rfl).trans ?_
        refine (sx_goto (tgt := 18) dx_232_1108 (by decide)).trans ?_
        rfl
      · refine (sx_iconst (v := 0) dx_232_1103 rfl).trans ?_
        exact sx_retz dx_232_1104 rt_232 (by decide)
    have zhx1_0 := mj_ne hx1_0 (n := 0) (by decide)
    have zhx1_1 := mj_ne hx1_1 (n := 1) (by decide)
    have zhx1_2 := mj_ne hx1_2 (n := 2) (by decide)
    have zhx1_3 := mj_ne hx1_3 (n := 3) (by decide)
    have zhx1_4 := mj_ne hx1_4 (n := 4) (by decide)
    have zhx1_5 := mj_ne hx1_5 (n := 5) (by decide)
    have zhx1_6 := mj_ne hx1_6 (n := 6) (by decide)
    have zhx1_7 := mj_ne hx1_7 (n := 7) (by decide)
    have zhx1_8 := mj_ne hx1_8 (n := 8) (by decide)
    have zhx1_9 := mj_ne hx1_9 (n := 9) (by decide)
    have zhx1_10 := mj_ne hx1_10 (n := 10) (by decide)
    have zhx1_11 := mj_ne hx1_11 (n := 11) (by decide)
    have zhx1_12 := mj_ne hx1_12 (n := 12) (by decide)
    have zhx1_13 := mj_ne hx1_13 (n := 13) (by decide)
    have zhx1_14 := mj_ne hx1_14 (n := 14) (by decide)
    have zhx1_15 := mj_ne hx1_15 (n := 15) (by decide)
    have zhx1_16 := mj_ne hx1_16 (n := 16) (by decide)
    have zhx1_17 := mj_ne hx1_17 (n := 17) (by decide)
    have zhx1_18 := mj_ne hx1_18 (n := 18) (by decide)
    have zhx1_19 := mj_ne hx1_19 (n := 19) (by decide)
    have zhx1_20 := mj_ne hx1_20 (n := 20) (by decide)
    have zhx1_21 := mj_ne hx1_21 (n := 21) (by decide)
    have zhx1_22 := mj_ne hx1_22 (n := 22) (by decide)
    have zhx1_23 := mj_ne hx1_23 (n := 23) (by decide)
    have zhx1_24 := mj_ne hx1_24 (n := 24) (by decide)
    have zhx1_25 := mj_ne hx1_25 (n := 25) (by decide)
    have zhx1_26 := mj_ne hx1_26 (n := 26) (by decide)
    have zhx1_27 := mj_ne hx1_27 (n := 27) (by decide)
    have zhx1_28 := mj_ne hx1_28 (n := 28) (by decide)
    have zhx1_29 := mj_ne hx1_29 (n := 29) (by decide)
    have zhx1_30 := mj_ne hx1_30 (n := 30) (by decide)
    refine (sx_tsw_out (tgt := 1105) dx_232_33 (by omega) (by decide)).trans ?_
    refine (sx_iinc (v := 6) dx_232_1105 rfl rfl rfl).trans ?_
    refine (sx_goto (tgt := 18) dx_232_1108 (by decide)).trans ?_
    rfl
  · refine (sx_iconst (v := 1) dx_232_1111 rfl).trans ?_
    exact sx_retz dx_232_1112 rt_232 (by decide)
