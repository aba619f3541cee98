theorem d250_0 : decode (zB 250) 0 = .ok (.new 7, 3) := by decide +kernel
theorem d250_3 : decode (zB 250) 3 = .ok (.dup, 1) := by decide +kernel
theorem d250_4 : decode (zB 250) 4 = .ok (.invokespecial 9, 3) := by decide +kernel
theorem d250_7 : decode (zB 250) 7 = .ok (.astore_n 1, 1) := by decide +kernel
theorem d250_8 : decode (zB 250) 8 = .ok (.new 10, 3) := by decide +kernel
theorem d250_11 : decode (zB 250) 11 = .ok (.dup, 1) := by decide +kernel
theorem d250_12 : decode (zB 250) 12 = .ok (.invokespecial 12, 3) := by decide +kernel
theorem d250_15 : decode (zB 250) 15 = .ok (.astore_n 2, 1) := by decide +kernel
theorem d250_16 : decode (zB 250) 16 = .ok (.iconst 0, 1) := by decide +kernel
theorem d250_17 : decode (zB 250) 17 = .ok (.istore_n 3, 1) := by decide +kernel
theorem d250_18 : decode (zB 250) 18 = .ok (.iload_n 3, 1) := by decide +kernel
theorem d250_19 : decode (zB 250) 19 = .ok (.aload_n 0, 1) := by decide +kernel
theorem d250_20 : decode (zB 250) 20 = .ok (.arraylength, 1) := by decide +kernel
theorem d250_21 : decode (zB 250) 21 = .ok (.bipush 6, 2) := by decide +kernel
theorem d250_23 : decode (zB 250) 23 = .ok (.isub, 1) := by decide +kernel
theorem d250_24 : decode (zB 250) 24 = .ok (.if_icmp .gt 1044, 3) := by decide +kernel
theorem d250_27 : decode (zB 250) 27 = .ok (.aload_n 0, 1) := by decide +kernel
theorem d250_28 : decode (zB 250) 28 = .ok (.iload_n 3, 1) := by decide +kernel
theorem d250_29 : decode (zB 250) 29 = .ok (.iaload, 1) := by decide +kernel
theorem d250_30 : decode (zB 250) 30 = .ok (.bipush 31, 2) := by decide +kernel
theorem d250_32 : decode (zB 250) 32 = .ok (.iand, 1) := by decide +kernel
theorem d250_33 : decode (zB 250) 33 = .ok (.tableswitch 1029 0 31 #[143, 186, 219, 252, 315, 338, 361, 394, 417, 440, 473, 486, 519, 542, 555, 588, 601, 644, 697, 710, 723, 756, 779, 842, 875, 898, 921, 944, 957, 970, 983, 1006], 143) := by decide +kernel
theorem d250_176 : decode (zB 250) 176 = .ok (.aload_n 1, 1) := by decide +kernel
theorem d250_177 : decode (zB 250) 177 = .ok (.aload_n 0, 1) := by decide +kernel
theorem d250_178 : decode (zB 250) 178 = .ok (.iload_n 3, 1) := by decide +kernel
theorem d250_179 : decode (zB 250) 179 = .ok (.iconst 1, 1) := by decide +kernel
theorem d250_180 : decode (zB 250) 180 = .ok (.iadd, 1) := by decide +kernel
theorem d250_181 : decode (zB 250) 181 = .ok (.iaload, 1) := by decide +kernel
theorem d250_182 : decode (zB 250) 182 = .ok (.aload_n 0, 1) := by decide +kernel
theorem d250_183 : decode (zB 250) 183 = .ok (.iload_n 3, 1) := by decide +kernel
theorem d250_184 : decode (zB 250) 184 = .ok (.iconst 2, 1) := by decide +kernel
theorem d250_185 : decode (zB 250) 185 = .ok (.iadd, 1) := by decide +kernel
theorem d250_186 : decode (zB 250) 186 = .ok (.iaload, 1) := by decide +kernel
theorem d250_187 : decode (zB 250) 187 = .ok (.aload_n 0, 1) := by decide +kernel
theorem d250_188 : decode (zB 250) 188 = .ok (.iload_n 3, 1) := by decide +kernel
theorem d250_189 : decode (zB 250) 189 = .ok (.iconst 3, 1) := by decide +kernel
theorem d250_190 : decode (zB 250) 190 = .ok (.iadd, 1) := by decide +kernel
theorem d250_191 : decode (zB 250) 191 = .ok (.iaload, 1) := by decide +kernel
theorem d250_192 : decode (zB 250) 192 = .ok (.invokevirtual 13, 3) := by decide +kernel
theorem d250_195 : decode (zB 250) 195 = .ok (.aload_n 2, 1) := by decide +kernel
theorem d250_196 : decode (zB 250) 196 = .ok (.aload_n 0, 1) := by decide +kernel
theorem d250_197 : decode (zB 250) 197 = .ok (.iload_n 3, 1) := by decide +kernel
theorem d250_198 : decode (zB 250) 198 = .ok (.iconst 1, 1) := by decide +kernel
theorem d250_199 : decode (zB 250) 199 = .ok (.iadd, 1) := by decide +kernel
theorem d250_200 : decode (zB 250) 200 = .ok (.iaload, 1) := by decide +kernel
theorem d250_201 : decode (zB 250) 201 = .ok (.aload_n 0, 1) := by decide +kernel
theorem d250_202 : decode (zB 250) 202 = .ok (.iload_n 3, 1) := by decide +kernel
theorem d250_203 : decode (zB 250) 203 = .ok (.iconst 2, 1) := by decide +kernel
theorem d250_204 : decode (zB 250) 204 = .ok (.iadd, 1) := by decide +kernel
theorem d250_205 : decode (zB 250) 205 = .ok (.iaload, 1) := by decide +kernel
theorem d250_206 : decode (zB 250) 206 = .ok (.aload_n 0, 1) := by decide +kernel
theorem d250_207 : decode (zB 250) 207 = .ok (.iload_n 3, 1) := by decide +kernel
theorem d250_208 : decode (zB 250) 208 = .ok (.iconst 3, 1) := by decide +kernel
theorem d250_209 : decode (zB 250) 209 = .ok (.iadd, 1) := by decide +kernel
theorem d250_210 : decode (zB 250) 210 = .ok (.iaload, 1) := by decide +kernel
theorem d250_211 : decode (zB 250) 211 = .ok (.invokevirtual 17, 3) := by decide +kernel
theorem d250_214 : decode (zB 250) 214 = .ok (.if_icmp .eq 848, 3) := by decide +kernel
theorem d250_217 : decode (zB 250) 217 = .ok (.iconst 0, 1) := by decide +kernel
theorem d250_218 : decode (zB 250) 218 = .ok (.ireturn, 1) := by decide +kernel
theorem d250_219 : decode (zB 250) 219 = .ok (.aload_n 1, 1) := by decide +kernel
theorem d250_220 : decode (zB 250) 220 = .ok (.aload_n 0, 1) := by decide +kernel
theorem d250_221 : decode (zB 250) 221 = .ok (.iload_n 3, 1) := by decide +kernel
theorem d250_222 : decode (zB 250) 222 = .ok (.iconst 1, 1) := by decide +kernel
theorem d250_223 : decode (zB 250) 223 = .ok (.iadd, 1) := by decide +kernel
theorem d250_224 : decode (zB 250) 224 = .ok (.iaload, 1) := by decide +kernel
theorem d250_225 : decode (zB 250) 225 = .ok (.aload_n 0, 1) := by decide +kernel
theorem d250_226 : decode (zB 250) 226 = .ok (.iload_n 3, 1) := by decide +kernel
theorem d250_227 : decode (zB 250) 227 = .ok (.iconst 2, 1) := by decide +kernel
theorem d250_228 : decode (zB 250) 228 = .ok (.iadd, 1) := by decide +kernel
theorem d250_229 : decode (zB 250) 229 = .ok (.iaload, 1) := by decide +kernel
theorem d250_230 : decode (zB 250) 230 = .ok (.invokevirtual 18, 3) := by decide +kernel
theorem d250_233 : decode (zB 250) 233 = .ok (.aload_n 2, 1) := by decide +kernel
theorem d250_234 : decode (zB 250) 234 = .ok (.aload_n 0, 1) := by decide +kernel
theorem d250_235 : decode (zB 250) 235 = .ok (.iload_n 3, 1) := by decide +kernel
theorem d250_236 : decode (zB 250) 236 = .ok (.iconst 1, 1) := by decide +kernel
theorem d250_237 : decode (zB 250) 237 = .ok (.iadd, 1) := by decide +kernel
theorem d250_238 : decode (zB 250) 238 = .ok (.iaload, 1) := by decide +kernel
theorem d250_239 : decode (zB 250) 239 = .ok (.aload_n 0, 1) := by decide +kernel
theorem d250_240 : decode (zB 250) 240 = .ok (.iload_n 3, 1) := by decide +kernel
theorem d250_241 : decode (zB 250) 241 = .ok (.iconst 2, 1) := by decide +kernel
theorem d250_242 : decode (zB 250) 242 = .ok (.iadd, 1) := by decide +kernel
theorem d250_243 : decode (zB 250) 243 = .ok (.iaload, 1) := by decide +kernel
theorem d250_244 : decode (zB 250) 244 = .ok (.invokevirtual 22, 3) := by decide +kernel
theorem d250_247 : decode (zB 250) 247 = .ok (.if_icmp .eq 815, 3) := by decide +kernel
theorem d250_250 : decode (zB 250) 250 = .ok (.iconst 0, 1) := by decide +kernel
theorem d250_251 : decode (zB 250) 251 = .ok (.ireturn, 1) := by decide +kernel
theorem d250_252 : decode (zB 250) 252 = .ok (.aload_n 1, 1) := by decide +kernel
theorem d250_253 : decode (zB 250) 253 = .ok (.aload_n 0, 1) := by decide +kernel
theorem d250_254 : decode (zB 250) 254 = .ok (.iload_n 3, 1) := by decide +kernel
theorem d250_255 : decode (zB 250) 255 = .ok (.iconst 1, 1) := by decide +kernel
theorem d250_256 : decode (zB 250) 256 = .ok (.iadd, 1) := by decide +kernel
theorem d250_257 : decode (zB 250) 257 = .ok (.iaload, 1) := by decide +kernel
theorem d250_258 : decode (zB 250) 258 = .ok (.aload_n 0, 1) := by decide +kernel
theorem d250_259 : decode (zB 250) 259 = .ok (.iload_n 3, 1) := by decide +kernel
theorem d250_260 : decode (zB 250) 260 = .ok (.iconst 2, 1) := by decide +kernel
theorem d250_261 : decode (zB 250) 261 = .ok (.iadd, 1) := by decide +kernel
theorem d250_262 : decode (zB 250) 262 = .ok (.iaload, 1) := by decide +kernel
theorem d250_263 : decode (zB 250) 263 = .ok (.invokevirtual 23, 3) := by decide +kernel
theorem d250_266 : decode (zB 250) 266 = .ok (.aload_n 2, 1) := by decide +kernel
theorem d250_267 : decode (zB 250) 267 = .ok (.aload_n 0, 1) := by decide +kernel
theorem d250_268 : decode (zB 250) 268 = .ok (.iload_n 3, 1) := by decide +kernel
theorem d250_269 : decode (zB 250) 269 = .ok (.iconst 1, 1) := by decide +kernel
theorem d250_270 : decode (zB 250) 270 = .ok (.iadd, 1) := by decide +kernel
theorem d250_271 : decode (zB 250) 271 = .ok (.iaload, 1) := by decide +kernel
theorem d250_272 : decode (zB 250) 272 = .ok (.aload_n 0, 1) := by decide +kernel
theorem d250_273 : decode (zB 250) 273 = .ok (.iload_n 3, 1) := by decide +kernel
theorem d250_274 : decode (zB 250) 274 = .ok (.iconst 2, 1) := by decide +kernel
theorem d250_275 : decode (zB 250) 275 = .ok (.iadd, 1) := by decide +kernel
theorem d250_276 : decode (zB 250) 276 = .ok (.iaload, 1) := by decide +kernel
theorem d250_277 : decode (zB 250) 277 = .ok (.invokevirtual 26, 3) := by decide +kernel
theorem d250_280 : decode (zB 250) 280 = .ok (.if_icmp .eq 782, 3) := by decide +kernel
theorem d250_283 : decode (zB 250) 283 = .ok (.iconst 0, 1) := by decide +kernel
theorem d250_284 : decode (zB 250) 284 = .ok (.ireturn, 1) := by decide +kernel
theorem d250_285 : decode (zB 250) 285 = .ok (.aload_n 1, 1) := by decide +kernel
theorem d250_286 : decode (zB 250) 286 = .ok (.aload_n 0, 1) := by decide +kernel
theorem d250_287 : decode (zB 250) 287 = .ok (.iload_n 3, 1) := by decide +kernel
theorem d250_288 : decode (zB 250) 288 = .ok (.iconst 1, 1) := by decide +kernel
theorem d250_289 : decode (zB 250) 289 = .ok (.iadd, 1) := by decide +kernel
theorem d250_290 : decode (zB 250) 290 = .ok (.iaload, 1) := by decide +kernel
theorem d250_291 : decode (zB 250) 291 = .ok (.aload_n 0, 1) := by decide +kernel
theorem d250_292 : decode (zB 250) 292 = .ok (.iload_n 3, 1) := by decide +kernel
theorem d250_293 : decode (zB 250) 293 = .ok (.iconst 2, 1) := by decide +kernel
theorem d250_294 : decode (zB 250) 294 = .ok (.iadd, 1) := by decide +kernel
theorem d250_295 : decode (zB 250) 295 = .ok (.iaload, 1) := by decide +kernel
theorem d250_296 : decode (zB 250) 296 = .ok (.aload_n 0, 1) := by decide +kernel
theorem d250_297 : decode (zB 250) 297 = .ok (.iload_n 3, 1) := by decide +kernel
theorem d250_298 : decode (zB 250) 298 = .ok (.iconst 3, 1) := by decide +kernel
theorem d250_299 : decode (zB 250) 299 = .ok (.iadd, 1) := by decide +kernel
theorem d250_300 : decode (zB 250) 300 = .ok (.iaload, 1) := by decide +kernel
theorem d250_301 : decode (zB 250) 301 = .ok (.aload_n 0, 1) := by decide +kernel
theorem d250_302 : decode (zB 250) 302 = .ok (.iload_n 3, 1) := by decide +kernel
theorem d250_303 : decode (zB 250) 303 = .ok (.iconst 4, 1) := by decide +kernel
theorem d250_304 : decode (zB 250) 304 = .ok (.iadd, 1) := by decide +kernel
theorem d250_305 : decode (zB 250) 305 = .ok (.iaload, 1) := by decide +kernel
theorem d250_306 : decode (zB 250) 306 = .ok (.aload_n 0, 1) := by decide +kernel
theorem d250_307 : decode (zB 250) 307 = .ok (.iload_n 3, 1) := by decide +kernel
theorem d250_308 : decode (zB 250) 308 = .ok (.iconst 5, 1) := by decide +kernel
theorem d250_309 : decode (zB 250) 309 = .ok (.iadd, 1) := by decide +kernel
theorem d250_310 : decode (zB 250) 310 = .ok (.iaload, 1) := by decide +kernel
theorem d250_311 : decode (zB 250) 311 = .ok (.invokevirtual 27, 3) := by decide +kernel
theorem d250_314 : decode (zB 250) 314 = .ok (.aload_n 2, 1) := by decide +kernel
theorem d250_315 : decode (zB 250) 315 = .ok (.aload_n 0, 1) := by decide +kernel
theorem d250_316 : decode (zB 250) 316 = .ok (.iload_n 3, 1) := by decide +kernel
theorem d250_317 : decode (zB 250) 317 = .ok (.iconst 1, 1) := by decide +kernel
theorem d250_318 : decode (zB 250) 318 = .ok (.iadd, 1) := by decide +kernel
theorem d250_319 : decode (zB 250) 319 = .ok (.iaload, 1) := by decide +kernel
theorem d250_320 : decode (zB 250) 320 = .ok (.aload_n 0, 1) := by decide +kernel
theorem d250_321 : decode (zB 250) 321 = .ok (.iload_n 3, 1) := by decide +kernel
theorem d250_322 : decode (zB 250) 322 = .ok (.iconst 2, 1) := by decide +kernel
theorem d250_323 : decode (zB 250) 323 = .ok (.iadd, 1) := by decide +kernel
theorem d250_324 : decode (zB 250) 324 = .ok (.iaload, 1) := by decide +kernel
theorem d250_325 : decode (zB 250) 325 = .ok (.aload_n 0, 1) := by decide +kernel
theorem d250_326 : decode (zB 250) 326 = .ok (.iload_n 3, 1) := by decide +kernel
theorem d250_327 : decode (zB 250) 327 = .ok (.iconst 3, 1) := by decide +kernel
theorem d250_328 : decode (zB 250) 328 = .ok (.iadd, 1) := by decide +kernel
theorem d250_329 : decode (zB 250) 329 = .ok (.iaload, 1) := by decide +kernel
theorem d250_330 : decode (zB 250) 330 = .ok (.aload_n 0, 1) := by decide +kernel
theorem d250_331 : decode (zB 250) 331 = .ok (.iload_n 3, 1) := by decide +kernel
theorem d250_332 : decode (zB 250) 332 = .ok (.iconst 4, 1) := by decide +kernel
theorem d250_333 : decode (zB 250) 333 = .ok (.iadd, 1) := by decide +kernel
theorem d250_334 : decode (zB 250) 334 = .ok (.iaload, 1) := by decide +kernel
theorem d250_335 : decode (zB 250) 335 = .ok (.aload_n 0, 1) := by decide +kernel
theorem d250_336 : decode (zB 250) 336 = .ok (.iload_n 3, 1) := by decide +kernel
theorem d250_337 : decode (zB 250) 337 = .ok (.iconst 5, 1) := by decide +kernel
theorem d250_338 : decode (zB 250) 338 = .ok (.iadd, 1) := by decide +kernel
theorem d250_339 : decode (zB 250) 339 = .ok (.iaload, 1) := by decide +kernel
theorem d250_340 : decode (zB 250) 340 = .ok (.invokevirtual 31, 3) := by decide +kernel
theorem d250_343 : decode (zB 250) 343 = .ok (.if_icmp .eq 719, 3) := by decide +kernel
theorem d250_346 : decode (zB 250) 346 = .ok (.iconst 0, 1) := by decide +kernel
theorem d250_347 : decode (zB 250) 347 = .ok (.ireturn, 1) := by decide +kernel
theorem d250_348 : decode (zB 250) 348 = .ok (.aload_n 1, 1) := by decide +kernel
theorem d250_349 : decode (zB 250) 349 = .ok (.aload_n 0, 1) := by decide +kernel
theorem d250_350 : decode (zB 250) 350 = .ok (.iload_n 3, 1) := by decide +kernel
theorem d250_351 : decode (zB 250) 351 = .ok (.iconst 1, 1) := by decide +kernel
theorem d250_352 : decode (zB 250) 352 = .ok (.iadd, 1) := by decide +kernel
theorem d250_353 : decode (zB 250) 353 = .ok (.iaload, 1) := by decide +kernel
theorem d250_354 : decode (zB 250) 354 = .ok (.invokevirtual 32, 3) := by decide +kernel
theorem d250_357 : decode (zB 250) 357 = .ok (.aload_n 2, 1) := by decide +kernel
theorem d250_358 : decode (zB 250) 358 = .ok (.aload_n 0, 1) := by decide +kernel
theorem d250_359 : decode (zB 250) 359 = .ok (.iload_n 3, 1) := by decide +kernel
theorem d250_360 : decode (zB 250) 360 = .ok (.iconst 1, 1) := by decide +kernel
theorem d250_361 : decode (zB 250) 361 = .ok (.iadd, 1) := by decide +kernel
theorem d250_362 : decode (zB 250) 362 = .ok (.iaload, 1) := by decide +kernel
theorem d250_363 : decode (zB 250) 363 = .ok (.invokevirtual 36, 3) := by decide +kernel
theorem d250_366 : decode (zB 250) 366 = .ok (.if_icmp .eq 696, 3) := by decide +kernel
theorem d250_369 : decode (zB 250) 369 = .ok (.iconst 0, 1) := by decide +kernel
theorem d250_370 : decode (zB 250) 370 = .ok (.ireturn, 1) := by decide +kernel
theorem d250_371 : decode (zB 250) 371 = .ok (.aload_n 1, 1) := by decide +kernel
theorem d250_372 : decode (zB 250) 372 = .ok (.aload_n 0, 1) := by decide +kernel
theorem d250_373 : decode (zB 250) 373 = .ok (.iload_n 3, 1) := by decide +kernel
theorem d250_374 : decode (zB 250) 374 = .ok (.iconst 1, 1) := by decide +kernel
theorem d250_375 : decode (zB 250) 375 = .ok (.iadd, 1) := by decide +kernel
theorem d250_376 : decode (zB 250) 376 = .ok (.iaload, 1) := by decide +kernel
theorem d250_377 : decode (zB 250) 377 = .ok (.invokevirtual 37, 3) := by decide +kernel
theorem d250_380 : decode (zB 250) 380 = .ok (.aload_n 2, 1) := by decide +kernel
theorem d250_381 : decode (zB 250) 381 = .ok (.aload_n 0, 1) := by decide +kernel
theorem d250_382 : decode (zB 250) 382 = .ok (.iload_n 3, 1) := by decide +kernel
theorem d250_383 : decode (zB 250) 383 = .ok (.iconst 1, 1) := by decide +kernel
theorem d250_384 : decode (zB 250) 384 = .ok (.iadd, 1) := by decide +kernel
theorem d250_385 : decode (zB 250) 385 = .ok (.iaload, 1) := by decide +kernel
theorem d250_386 : decode (zB 250) 386 = .ok (.invokevirtual 41, 3) := by decide +kernel
theorem d250_389 : decode (zB 250) 389 = .ok (.if_icmp .eq 673, 3) := by decide +kernel
theorem d250_392 : decode (zB 250) 392 = .ok (.iconst 0, 1) := by decide +kernel
theorem d250_393 : decode (zB 250) 393 = .ok (.ireturn, 1) := by decide +kernel
theorem d250_394 : decode (zB 250) 394 = .ok (.aload_n 1, 1) := by decide +kernel
theorem d250_395 : decode (zB 250) 395 = .ok (.aload_n 0, 1) := by decide +kernel
theorem d250_396 : decode (zB 250) 396 = .ok (.iload_n 3, 1) := by decide +kernel
theorem d250_397 : decode (zB 250) 397 = .ok (.iconst 1, 1) := by decide +kernel
theorem d250_398 : decode (zB 250) 398 = .ok (.iadd, 1) := by decide +kernel
theorem d250_399 : decode (zB 250) 399 = .ok (.iaload, 1) := by decide +kernel
theorem d250_400 : decode (zB 250) 400 = .ok (.aload_n 0, 1) := by decide +kernel
theorem d250_401 : decode (zB 250) 401 = .ok (.iload_n 3, 1) := by decide +kernel
theorem d250_402 : decode (zB 250) 402 = .ok (.iconst 2, 1) := by decide +kernel
theorem d250_403 : decode (zB 250) 403 = .ok (.iadd, 1) := by decide +kernel
theorem d250_404 : decode (zB 250) 404 = .ok (.iaload, 1) := by decide +kernel
theorem d250_405 : decode (zB 250) 405 = .ok (.invokevirtual 42, 3) := by decide +kernel
theorem d250_408 : decode (zB 250) 408 = .ok (.aload_n 2, 1) := by decide +kernel
theorem d250_409 : decode (zB 250) 409 = .ok (.aload_n 0, 1) := by decide +kernel
theorem d250_410 : decode (zB 250) 410 = .ok (.iload_n 3, 1) := by decide +kernel
theorem d250_411 : decode (zB 250) 411 = .ok (.iconst 1, 1) := by decide +kernel
theorem d250_412 : decode (zB 250) 412 = .ok (.iadd, 1) := by decide +kernel
theorem d250_413 : decode (zB 250) 413 = .ok (.iaload, 1) := by decide +kernel
theorem d250_414 : decode (zB 250) 414 = .ok (.aload_n 0, 1) := by decide +kernel
theorem d250_415 : decode (zB 250) 415 = .ok (.iload_n 3, 1) := by decide +kernel
theorem d250_416 : decode (zB 250) 416 = .ok (.iconst 2, 1) := by decide +kernel
theorem d250_417 : decode (zB 250) 417 = .ok (.iadd, 1) := by decide +kernel
theorem d250_418 : decode (zB 250) 418 = .ok (.iaload, 1) := by decide +kernel
theorem d250_419 : decode (zB 250) 419 = .ok (.invokevirtual 46, 3) := by decide +kernel
theorem d250_422 : decode (zB 250) 422 = .ok (.if_icmp .eq 640, 3) := by decide +kernel
theorem d250_425 : decode (zB 250) 425 = .ok (.iconst 0, 1) := by decide +kernel
theorem d250_426 : decode (zB 250) 426 = .ok (.ireturn, 1) := by decide +kernel
theorem d250_427 : decode (zB 250) 427 = .ok (.aload_n 1, 1) := by decide +kernel
theorem d250_428 : decode (zB 250) 428 = .ok (.aload_n 0, 1) := by decide +kernel
theorem d250_429 : decode (zB 250) 429 = .ok (.iload_n 3, 1) := by decide +kernel
theorem d250_430 : decode (zB 250) 430 = .ok (.iconst 1, 1) := by decide +kernel
theorem d250_431 : decode (zB 250) 431 = .ok (.iadd, 1) := by decide +kernel
theorem d250_432 : decode (zB 250) 432 = .ok (.iaload, 1) := by decide +kernel
theorem d250_433 : decode (zB 250) 433 = .ok (.invokevirtual 47, 3) := by decide +kernel
theorem d250_436 : decode (zB 250) 436 = .ok (.aload_n 2, 1) := by decide +kernel
theorem d250_437 : decode (zB 250) 437 = .ok (.aload_n 0, 1) := by decide +kernel
theorem d250_438 : decode (zB 250) 438 = .ok (.iload_n 3, 1) := by decide +kernel
theorem d250_439 : decode (zB 250) 439 = .ok (.iconst 1, 1) := by decide +kernel
theorem d250_440 : decode (zB 250) 440 = .ok (.iadd, 1) := by decide +kernel
theorem d250_441 : decode (zB 250) 441 = .ok (.iaload, 1) := by decide +kernel
theorem d250_442 : decode (zB 250) 442 = .ok (.invokevirtual 50, 3) := by decide +kernel
theorem d250_445 : decode (zB 250) 445 = .ok (.if_icmp .eq 617, 3) := by decide +kernel
theorem d250_448 : decode (zB 250) 448 = .ok (.iconst 0, 1) := by decide +kernel
theorem d250_449 : decode (zB 250) 449 = .ok (.ireturn, 1) := by decide +kernel
theorem d250_450 : decode (zB 250) 450 = .ok (.aload_n 1, 1) := by decide +kernel
theorem d250_451 : decode (zB 250) 451 = .ok (.aload_n 0, 1) := by decide +kernel
theorem d250_452 : decode (zB 250) 452 = .ok (.iload_n 3, 1) := by decide +kernel
theorem d250_453 : decode (zB 250) 453 = .ok (.iconst 1, 1) := by decide +kernel
theorem d250_454 : decode (zB 250) 454 = .ok (.iadd, 1) := by decide +kernel
theorem d250_455 : decode (zB 250) 455 = .ok (.iaload, 1) := by decide +kernel
theorem d250_456 : decode (zB 250) 456 = .ok (.invokevirtual 51, 3) := by decide +kernel
theorem d250_459 : decode (zB 250) 459 = .ok (.aload_n 2, 1) := by decide +kernel
theorem d250_460 : decode (zB 250) 460 = .ok (.aload_n 0, 1) := by decide +kernel
theorem d250_461 : decode (zB 250) 461 = .ok (.iload_n 3, 1) := by decide +kernel
theorem d250_462 : decode (zB 250) 462 = .ok (.iconst 1, 1) := by decide +kernel
theorem d250_463 : decode (zB 250) 463 = .ok (.iadd, 1) := by decide +kernel
theorem d250_464 : decode (zB 250) 464 = .ok (.iaload, 1) := by decide +kernel
theorem d250_465 : decode (zB 250) 465 = .ok (.invokevirtual 54, 3) := by decide +kernel
theorem d250_468 : decode (zB 250) 468 = .ok (.if_icmp .eq 594, 3) := by decide +kernel
theorem d250_471 : decode (zB 250) 471 = .ok (.iconst 0, 1) := by decide +kernel
theorem d250_472 : decode (zB 250) 472 = .ok (.ireturn, 1) := by decide +kernel
theorem d250_473 : decode (zB 250) 473 = .ok (.aload_n 1, 1) := by decide +kernel
theorem d250_474 : decode (zB 250) 474 = .ok (.aload_n 0, 1) := by decide +kernel
theorem d250_475 : decode (zB 250) 475 = .ok (.iload_n 3, 1) := by decide +kernel
theorem d250_476 : decode (zB 250) 476 = .ok (.iconst 1, 1) := by decide +kernel
theorem d250_477 : decode (zB 250) 477 = .ok (.iadd, 1) := by decide +kernel
theorem d250_478 : decode (zB 250) 478 = .ok (.iaload, 1) := by decide +kernel
theorem d250_479 : decode (zB 250) 479 = .ok (.aload_n 0, 1) := by decide +kernel
theorem d250_480 : decode (zB 250) 480 = .ok (.iload_n 3, 1) := by decide +kernel
theorem d250_481 : decode (zB 250) 481 = .ok (.iconst 2, 1) := by decide +kernel
theorem d250_482 : decode (zB 250) 482 = .ok (.iadd, 1) := by decide +kernel
theorem d250_483 : decode (zB 250) 483 = .ok (.iaload, 1) := by decide +kernel
theorem d250_484 : decode (zB 250) 484 = .ok (.invokevirtual 55, 3) := by decide +kernel
theorem d250_487 : decode (zB 250) 487 = .ok (.aload_n 2, 1) := by decide +kernel
theorem d250_488 : decode (zB 250) 488 = .ok (.aload_n 0, 1) := by decide +kernel
theorem d250_489 : decode (zB 250) 489 = .ok (.iload_n 3, 1) := by decide +kernel
theorem d250_490 : decode (zB 250) 490 = .ok (.iconst 1, 1) := by decide +kernel
theorem d250_491 : decode (zB 250) 491 = .ok (.iadd, 1) := by decide +kernel
theorem d250_492 : decode (zB 250) 492 = .ok (.iaload, 1) := by decide +kernel
theorem d250_493 : decode (zB 250) 493 = .ok (.aload_n 0, 1) := by decide +kernel
theorem d250_494 : decode (zB 250) 494 = .ok (.iload_n 3, 1) := by decide +kernel
theorem d250_495 : decode (zB 250) 495 = .ok (.iconst 2, 1) := by decide +kernel
theorem d250_496 : decode (zB 250) 496 = .ok (.iadd, 1) := by decide +kernel
theorem d250_497 : decode (zB 250) 497 = .ok (.iaload, 1) := by decide +kernel
theorem d250_498 : decode (zB 250) 498 = .ok (.invokevirtual 58, 3) := by decide +kernel
theorem d250_501 : decode (zB 250) 501 = .ok (.if_icmp .eq 561, 3) := by decide +kernel
theorem d250_504 : decode (zB 250) 504 = .ok (.iconst 0, 1) := by decide +kernel
theorem d250_505 : decode (zB 250) 505 = .ok (.ireturn, 1) := by decide +kernel
theorem d250_506 : decode (zB 250) 506 = .ok (.aload_n 1, 1) := by decide +kernel
theorem d250_507 : decode (zB 250) 507 = .ok (.invokevirtual 59, 3) := by decide +kernel
theorem d250_510 : decode (zB 250) 510 = .ok (.aload_n 2, 1) := by decide +kernel
theorem d250_511 : decode (zB 250) 511 = .ok (.invokevirtual 63, 3) := by decide +kernel
theorem d250_514 : decode (zB 250) 514 = .ok (.if_icmp .eq 548, 3) := by decide +kernel
theorem d250_517 : decode (zB 250) 517 = .ok (.iconst 0, 1) := by decide +kernel
theorem d250_518 : decode (zB 250) 518 = .ok (.ireturn, 1) := by decide +kernel
theorem d250_519 : decode (zB 250) 519 = .ok (.aload_n 1, 1) := by decide +kernel
theorem d250_520 : decode (zB 250) 520 = .ok (.aload_n 0, 1) := by decide +kernel
theorem d250_521 : decode (zB 250) 521 = .ok (.iload_n 3, 1) := by decide +kernel
theorem d250_522 : decode (zB 250) 522 = .ok (.iconst 1, 1) := by decide +kernel
theorem d250_523 : decode (zB 250) 523 = .ok (.iadd, 1) := by decide +kernel
theorem d250_524 : decode (zB 250) 524 = .ok (.iaload, 1) := by decide +kernel
theorem d250_525 : decode (zB 250) 525 = .ok (.aload_n 0, 1) := by decide +kernel
theorem d250_526 : decode (zB 250) 526 = .ok (.iload_n 3, 1) := by decide +kernel
theorem d250_527 : decode (zB 250) 527 = .ok (.iconst 2, 1) := by decide +kernel
theorem d250_528 : decode (zB 250) 528 = .ok (.iadd, 1) := by decide +kernel
theorem d250_529 : decode (zB 250) 529 = .ok (.iaload, 1) := by decide +kernel
theorem d250_530 : decode (zB 250) 530 = .ok (.invokevirtual 64, 3) := by decide +kernel
theorem d250_533 : decode (zB 250) 533 = .ok (.aload_n 2, 1) := by decide +kernel
theorem d250_534 : decode (zB 250) 534 = .ok (.aload_n 0, 1) := by decide +kernel
theorem d250_535 : decode (zB 250) 535 = .ok (.iload_n 3, 1) := by decide +kernel
theorem d250_536 : decode (zB 250) 536 = .ok (.iconst 1, 1) := by decide +kernel
theorem d250_537 : decode (zB 250) 537 = .ok (.iadd, 1) := by decide +kernel
theorem d250_538 : decode (zB 250) 538 = .ok (.iaload, 1) := by decide +kernel
theorem d250_539 : decode (zB 250) 539 = .ok (.aload_n 0, 1) := by decide +kernel
theorem d250_540 : decode (zB 250) 540 = .ok (.iload_n 3, 1) := by decide +kernel
theorem d250_541 : decode (zB 250) 541 = .ok (.iconst 2, 1) := by decide +kernel
theorem d250_542 : decode (zB 250) 542 = .ok (.iadd, 1) := by decide +kernel
theorem d250_543 : decode (zB 250) 543 = .ok (.iaload, 1) := by decide +kernel
theorem d250_544 : decode (zB 250) 544 = .ok (.invokevirtual 67, 3) := by decide +kernel
theorem d250_547 : decode (zB 250) 547 = .ok (.if_icmp .eq 515, 3) := by decide +kernel
theorem d250_550 : decode (zB 250) 550 = .ok (.iconst 0, 1) := by decide +kernel
theorem d250_551 : decode (zB 250) 551 = .ok (.ireturn, 1) := by decide +kernel
theorem d250_552 : decode (zB 250) 552 = .ok (.aload_n 1, 1) := by decide +kernel
theorem d250_553 : decode (zB 250) 553 = .ok (.aload_n 0, 1) := by decide +kernel
theorem d250_554 : decode (zB 250) 554 = .ok (.iload_n 3, 1) := by decide +kernel
theorem d250_555 : decode (zB 250) 555 = .ok (.iconst 1, 1) := by decide +kernel
theorem d250_556 : decode (zB 250) 556 = .ok (.iadd, 1) := by decide +kernel
theorem d250_557 : decode (zB 250) 557 = .ok (.iaload, 1) := by decide +kernel
theorem d250_558 : decode (zB 250) 558 = .ok (.invokevirtual 68, 3) := by decide +kernel
theorem d250_561 : decode (zB 250) 561 = .ok (.aload_n 2, 1) := by decide +kernel
theorem d250_562 : decode (zB 250) 562 = .ok (.aload_n 0, 1) := by decide +kernel
theorem d250_563 : decode (zB 250) 563 = .ok (.iload_n 3, 1) := by decide +kernel
theorem d250_564 : decode (zB 250) 564 = .ok (.iconst 1, 1) := by decide +kernel
theorem d250_565 : decode (zB 250) 565 = .ok (.iadd, 1) := by decide +kernel
theorem d250_566 : decode (zB 250) 566 = .ok (.iaload, 1) := by decide +kernel
theorem d250_567 : decode (zB 250) 567 = .ok (.invokevirtual 71, 3) := by decide +kernel
theorem d250_570 : decode (zB 250) 570 = .ok (.if_icmp .eq 492, 3) := by decide +kernel
theorem d250_573 : decode (zB 250) 573 = .ok (.iconst 0, 1) := by decide +kernel
theorem d250_574 : decode (zB 250) 574 = .ok (.ireturn, 1) := by decide +kernel
theorem d250_575 : decode (zB 250) 575 = .ok (.aload_n 1, 1) := by decide +kernel
theorem d250_576 : decode (zB 250) 576 = .ok (.invokevirtual 72, 3) := by decide +kernel
theorem d250_579 : decode (zB 250) 579 = .ok (.aload_n 2, 1) := by decide +kernel
theorem d250_580 : decode (zB 250) 580 = .ok (.invokevirtual 75, 3) := by decide +kernel
theorem d250_583 : decode (zB 250) 583 = .ok (.if_icmp .eq 479, 3) := by decide +kernel
theorem d250_586 : decode (zB 250) 586 = .ok (.iconst 0, 1) := by decide +kernel
theorem d250_587 : decode (zB 250) 587 = .ok (.ireturn, 1) := by decide +kernel
theorem d250_588 : decode (zB 250) 588 = .ok (.aload_n 1, 1) := by decide +kernel
theorem d250_589 : decode (zB 250) 589 = .ok (.aload_n 0, 1) := by decide +kernel
theorem d250_590 : decode (zB 250) 590 = .ok (.iload_n 3, 1) := by decide +kernel
theorem d250_591 : decode (zB 250) 591 = .ok (.iconst 1, 1) := by decide +kernel
theorem d250_592 : decode (zB 250) 592 = .ok (.iadd, 1) := by decide +kernel
theorem d250_593 : decode (zB 250) 593 = .ok (.iaload, 1) := by decide +kernel
theorem d250_594 : decode (zB 250) 594 = .ok (.aload_n 0, 1) := by decide +kernel
theorem d250_595 : decode (zB 250) 595 = .ok (.iload_n 3, 1) := by decide +kernel
theorem d250_596 : decode (zB 250) 596 = .ok (.iconst 2, 1) := by decide +kernel
theorem d250_597 : decode (zB 250) 597 = .ok (.iadd, 1) := by decide +kernel
theorem d250_598 : decode (zB 250) 598 = .ok (.iaload, 1) := by decide +kernel
theorem d250_599 : decode (zB 250) 599 = .ok (.invokevirtual 76, 3) := by decide +kernel
theorem d250_602 : decode (zB 250) 602 = .ok (.aload_n 2, 1) := by decide +kernel
theorem d250_603 : decode (zB 250) 603 = .ok (.aload_n 0, 1) := by decide +kernel
theorem d250_604 : decode (zB 250) 604 = .ok (.iload_n 3, 1) := by decide +kernel
theorem d250_605 : decode (zB 250) 605 = .ok (.iconst 1, 1) := by decide +kernel
theorem d250_606 : decode (zB 250) 606 = .ok (.iadd, 1) := by decide +kernel
theorem d250_607 : decode (zB 250) 607 = .ok (.iaload, 1) := by decide +kernel
theorem d250_608 : decode (zB 250) 608 = .ok (.aload_n 0, 1) := by decide +kernel
theorem d250_609 : decode (zB 250) 609 = .ok (.iload_n 3, 1) := by decide +kernel
theorem d250_610 : decode (zB 250) 610 = .ok (.iconst 2, 1) := by decide +kernel
theorem d250_611 : decode (zB 250) 611 = .ok (.iadd, 1) := by decide +kernel
theorem d250_612 : decode (zB 250) 612 = .ok (.iaload, 1) := by decide +kernel
theorem d250_613 : decode (zB 250) 613 = .ok (.invokevirtual 79, 3) := by decide +kernel
theorem d250_616 : decode (zB 250) 616 = .ok (.if_icmp .eq 446, 3) := by decide +kernel
theorem d250_619 : decode (zB 250) 619 = .ok (.iconst 0, 1) := by decide +kernel
theorem d250_620 : decode (zB 250) 620 = .ok (.ireturn, 1) := by decide +kernel
theorem d250_621 : decode (zB 250) 621 = .ok (.aload_n 1, 1) := by decide +kernel
theorem d250_622 : decode (zB 250) 622 = .ok (.invokevirtual 80, 3) := by decide +kernel
theorem d250_625 : decode (zB 250) 625 = .ok (.aload_n 2, 1) := by decide +kernel
theorem d250_626 : decode (zB 250) 626 = .ok (.invokevirtual 83, 3) := by decide +kernel
theorem d250_629 : decode (zB 250) 629 = .ok (.if_icmp .eq 433, 3) := by decide +kernel
theorem d250_632 : decode (zB 250) 632 = .ok (.iconst 0, 1) := by decide +kernel
theorem d250_633 : decode (zB 250) 633 = .ok (.ireturn, 1) := by decide +kernel
theorem d250_634 : decode (zB 250) 634 = .ok (.aload_n 1, 1) := by decide +kernel
theorem d250_635 : decode (zB 250) 635 = .ok (.aload_n 0, 1) := by decide +kernel
theorem d250_636 : decode (zB 250) 636 = .ok (.iload_n 3, 1) := by decide +kernel
theorem d250_637 : decode (zB 250) 637 = .ok (.iconst 1, 1) := by decide +kernel
theorem d250_638 : decode (zB 250) 638 = .ok (.iadd, 1) := by decide +kernel
theorem d250_639 : decode (zB 250) 639 = .ok (.iaload, 1) := by decide +kernel
theorem d250_640 : decode (zB 250) 640 = .ok (.aload_n 0, 1) := by decide +kernel
theorem d250_641 : decode (zB 250) 641 = .ok (.iload_n 3, 1) := by decide +kernel
theorem d250_642 : decode (zB 250) 642 = .ok (.iconst 2, 1) := by decide +kernel
theorem d250_643 : decode (zB 250) 643 = .ok (.iadd, 1) := by decide +kernel
theorem d250_644 : decode (zB 250) 644 = .ok (.iaload, 1) := by decide +kernel
theorem d250_645 : decode (zB 250) 645 = .ok (.aload_n 0, 1) := by decide +kernel
theorem d250_646 : decode (zB 250) 646 = .ok (.iload_n 3, 1) := by decide +kernel
theorem d250_647 : decode (zB 250) 647 = .ok (.iconst 3, 1) := by decide +kernel
theorem d250_648 : decode (zB 250) 648 = .ok (.iadd, 1) := by decide +kernel
theorem d250_649 : decode (zB 250) 649 = .ok (.iaload, 1) := by decide +kernel
theorem d250_650 : decode (zB 250) 650 = .ok (.invokevirtual 84, 3) := by decide +kernel
theorem d250_653 : decode (zB 250) 653 = .ok (.aload_n 2, 1) := by decide +kernel
theorem d250_654 : decode (zB 250) 654 = .ok (.aload_n 0, 1) := by decide +kernel
theorem d250_655 : decode (zB 250) 655 = .ok (.iload_n 3, 1) := by decide +kernel
theorem d250_656 : decode (zB 250) 656 = .ok (.iconst 1, 1) := by decide +kernel
theorem d250_657 : decode (zB 250) 657 = .ok (.iadd, 1) := by decide +kernel
theorem d250_658 : decode (zB 250) 658 = .ok (.iaload, 1) := by decide +kernel
theorem d250_659 : decode (zB 250) 659 = .ok (.aload_n 0, 1) := by decide +kernel
theorem d250_660 : decode (zB 250) 660 = .ok (.iload_n 3, 1) := by decide +kernel
theorem d250_661 : decode (zB 250) 661 = .ok (.iconst 2, 1) := by decide +kernel
theorem d250_662 : decode (zB 250) 662 = .ok (.iadd, 1) := by decide +kernel
theorem d250_663 : decode (zB 250) 663 = .ok (.iaload, 1) := by decide +kernel
theorem d250_664 : decode (zB 250) 664 = .ok (.aload_n 0, 1) := by decide +kernel
theorem d250_665 : decode (zB 250) 665 = .ok (.iload_n 3, 1) := by decide +kernel
theorem d250_666 : decode (zB 250) 666 = .ok (.iconst 3, 1) := by decide +kernel
theorem d250_667 : decode (zB 250) 667 = .ok (.iadd, 1) := by decide +kernel
theorem d250_668 : decode (zB 250) 668 = .ok (.iaload, 1) := by decide +kernel
theorem d250_669 : decode (zB 250) 669 = .ok (.invokevirtual 87, 3) := by decide +kernel
theorem d250_672 : decode (zB 250) 672 = .ok (.if_icmp .eq 390, 3) := by decide +kernel
theorem d250_675 : decode (zB 250) 675 = .ok (.iconst 0, 1) := by decide +kernel
theorem d250_676 : decode (zB 250) 676 = .ok (.ireturn, 1) := by decide +kernel
theorem d250_677 : decode (zB 250) 677 = .ok (.aload_n 1, 1) := by decide +kernel
theorem d250_678 : decode (zB 250) 678 = .ok (.aload_n 0, 1) := by decide +kernel
theorem d250_679 : decode (zB 250) 679 = .ok (.iload_n 3, 1) := by decide +kernel
theorem d250_680 : decode (zB 250) 680 = .ok (.iconst 1, 1) := by decide +kernel
theorem d250_681 : decode (zB 250) 681 = .ok (.iadd, 1) := by decide +kernel
theorem d250_682 : decode (zB 250) 682 = .ok (.iaload, 1) := by decide +kernel
theorem d250_683 : decode (zB 250) 683 = .ok (.aload_n 0, 1) := by decide +kernel
theorem d250_684 : decode (zB 250) 684 = .ok (.iload_n 3, 1) := by decide +kernel
theorem d250_685 : decode (zB 250) 685 = .ok (.iconst 2, 1) := by decide +kernel
theorem d250_686 : decode (zB 250) 686 = .ok (.iadd, 1) := by decide +kernel
theorem d250_687 : decode (zB 250) 687 = .ok (.iaload, 1) := by decide +kernel
theorem d250_688 : decode (zB 250) 688 = .ok (.aload_n 0, 1) := by decide +kernel
theorem d250_689 : decode (zB 250) 689 = .ok (.iload_n 3, 1) := by decide +kernel
theorem d250_690 : decode (zB 250) 690 = .ok (.iconst 3, 1) := by decide +kernel
theorem d250_691 : decode (zB 250) 691 = .ok (.iadd, 1) := by decide +kernel
theorem d250_692 : decode (zB 250) 692 = .ok (.iaload, 1) := by decide +kernel
theorem d250_693 : decode (zB 250) 693 = .ok (.aload_n 0, 1) := by decide +kernel
theorem d250_694 : decode (zB 250) 694 = .ok (.iload_n 3, 1) := by decide +kernel
theorem d250_695 : decode (zB 250) 695 = .ok (.iconst 4, 1) := by decide +kernel
theorem d250_696 : decode (zB 250) 696 = .ok (.iadd, 1) := by decide +kernel
theorem d250_697 : decode (zB 250) 697 = .ok (.iaload, 1) := by decide +kernel
theorem d250_698 : decode (zB 250) 698 = .ok (.invokevirtual 88, 3) := by decide +kernel
theorem d250_701 : decode (zB 250) 701 = .ok (.aload_n 2, 1) := by decide +kernel
theorem d250_702 : decode (zB 250) 702 = .ok (.aload_n 0, 1) := by decide +kernel
theorem d250_703 : decode (zB 250) 703 = .ok (.iload_n 3, 1) := by decide +kernel
theorem d250_704 : decode (zB 250) 704 = .ok (.iconst 1, 1) := by decide +kernel
theorem d250_705 : decode (zB 250) 705 = .ok (.iadd, 1) := by decide +kernel
theorem d250_706 : decode (zB 250) 706 = .ok (.iaload, 1) := by decide +kernel
theorem d250_707 : decode (zB 250) 707 = .ok (.aload_n 0, 1) := by decide +kernel
theorem d250_708 : decode (zB 250) 708 = .ok (.iload_n 3, 1) := by decide +kernel
theorem d250_709 : decode (zB 250) 709 = .ok (.iconst 2, 1) := by decide +kernel
theorem d250_710 : decode (zB 250) 710 = .ok (.iadd, 1) := by decide +kernel
theorem d250_711 : decode (zB 250) 711 = .ok (.iaload, 1) := by decide +kernel
theorem d250_712 : decode (zB 250) 712 = .ok (.aload_n 0, 1) := by decide +kernel
theorem d250_713 : decode (zB 250) 713 = .ok (.iload_n 3, 1) := by decide +kernel
theorem d250_714 : decode (zB 250) 714 = .ok (.iconst 3, 1) := by decide +kernel
theorem d250_715 : decode (zB 250) 715 = .ok (.iadd, 1) := by decide +kernel
theorem d250_716 : decode (zB 250) 716 = .ok (.iaload, 1) := by decide +kernel
theorem d250_717 : decode (zB 250) 717 = .ok (.aload_n 0, 1) := by decide +kernel
theorem d250_718 : decode (zB 250) 718 = .ok (.iload_n 3, 1) := by decide +kernel
theorem d250_719 : decode (zB 250) 719 = .ok (.iconst 4, 1) := by decide +kernel
theorem d250_720 : decode (zB 250) 720 = .ok (.iadd, 1) := by decide +kernel
theorem d250_721 : decode (zB 250) 721 = .ok (.iaload, 1) := by decide +kernel
theorem d250_722 : decode (zB 250) 722 = .ok (.invokevirtual 92, 3) := by decide +kernel
theorem d250_725 : decode (zB 250) 725 = .ok (.if_icmp .eq 337, 3) := by decide +kernel
theorem d250_728 : decode (zB 250) 728 = .ok (.iconst 0, 1) := by decide +kernel
theorem d250_729 : decode (zB 250) 729 = .ok (.ireturn, 1) := by decide +kernel
theorem d250_730 : decode (zB 250) 730 = .ok (.aload_n 1, 1) := by decide +kernel
theorem d250_731 : decode (zB 250) 731 = .ok (.invokevirtual 93, 3) := by decide +kernel
theorem d250_734 : decode (zB 250) 734 = .ok (.aload_n 2, 1) := by decide +kernel
theorem d250_735 : decode (zB 250) 735 = .ok (.invokevirtual 96, 3) := by decide +kernel
theorem d250_738 : decode (zB 250) 738 = .ok (.if_icmp .eq 324, 3) := by decide +kernel
theorem d250_741 : decode (zB 250) 741 = .ok (.iconst 0, 1) := by decide +kernel
theorem d250_742 : decode (zB 250) 742 = .ok (.ireturn, 1) := by decide +kernel
theorem d250_743 : decode (zB 250) 743 = .ok (.aload_n 1, 1) := by decide +kernel
theorem d250_744 : decode (zB 250) 744 = .ok (.invokevirtual 97, 3) := by decide +kernel
theorem d250_747 : decode (zB 250) 747 = .ok (.aload_n 2, 1) := by decide +kernel
theorem d250_748 : decode (zB 250) 748 = .ok (.invokevirtual 100, 3) := by decide +kernel
theorem d250_751 : decode (zB 250) 751 = .ok (.if_icmp .eq 311, 3) := by decide +kernel
theorem d250_754 : decode (zB 250) 754 = .ok (.iconst 0, 1) := by decide +kernel
theorem d250_755 : decode (zB 250) 755 = .ok (.ireturn, 1) := by decide +kernel
theorem d250_756 : decode (zB 250) 756 = .ok (.aload_n 1, 1) := by decide +kernel
theorem d250_757 : decode (zB 250) 757 = .ok (.aload_n 0, 1) := by decide +kernel
theorem d250_758 : decode (zB 250) 758 = .ok (.iload_n 3, 1) := by decide +kernel
theorem d250_759 : decode (zB 250) 759 = .ok (.iconst 1, 1) := by decide +kernel
theorem d250_760 : decode (zB 250) 760 = .ok (.iadd, 1) := by decide +kernel
theorem d250_761 : decode (zB 250) 761 = .ok (.iaload, 1) := by decide +kernel
theorem d250_762 : decode (zB 250) 762 = .ok (.aload_n 0, 1) := by decide +kernel
theorem d250_763 : decode (zB 250) 763 = .ok (.iload_n 3, 1) := by decide +kernel
theorem d250_764 : decode (zB 250) 764 = .ok (.iconst 2, 1) := by decide +kernel
theorem d250_765 : decode (zB 250) 765 = .ok (.iadd, 1) := by decide +kernel
theorem d250_766 : decode (zB 250) 766 = .ok (.iaload, 1) := by decide +kernel
theorem d250_767 : decode (zB 250) 767 = .ok (.invokevirtual 101, 3) := by decide +kernel
theorem d250_770 : decode (zB 250) 770 = .ok (.aload_n 2, 1) := by decide +kernel
theorem d250_771 : decode (zB 250) 771 = .ok (.aload_n 0, 1) := by decide +kernel
theorem d250_772 : decode (zB 250) 772 = .ok (.iload_n 3, 1) := by decide +kernel
theorem d250_773 : decode (zB 250) 773 = .ok (.iconst 1, 1) := by decide +kernel
theorem d250_774 : decode (zB 250) 774 = .ok (.iadd, 1) := by decide +kernel
theorem d250_775 : decode (zB 250) 775 = .ok (.iaload, 1) := by decide +kernel
theorem d250_776 : decode (zB 250) 776 = .ok (.aload_n 0, 1) := by decide +kernel
theorem d250_777 : decode (zB 250) 777 = .ok (.iload_n 3, 1) := by decide +kernel
theorem d250_778 : decode (zB 250) 778 = .ok (.iconst 2, 1) := by decide +kernel
theorem d250_779 : decode (zB 250) 779 = .ok (.iadd, 1) := by decide +kernel
theorem d250_780 : decode (zB 250) 780 = .ok (.iaload, 1) := by decide +kernel
theorem d250_781 : decode (zB 250) 781 = .ok (.invokevirtual 104, 3) := by decide +kernel
theorem d250_784 : decode (zB 250) 784 = .ok (.if_icmp .eq 278, 3) := by decide +kernel
theorem d250_787 : decode (zB 250) 787 = .ok (.iconst 0, 1) := by decide +kernel
theorem d250_788 : decode (zB 250) 788 = .ok (.ireturn, 1) := by decide +kernel
theorem d250_789 : decode (zB 250) 789 = .ok (.aload_n 1, 1) := by decide +kernel
theorem d250_790 : decode (zB 250) 790 = .ok (.aload_n 0, 1) := by decide +kernel
theorem d250_791 : decode (zB 250) 791 = .ok (.iload_n 3, 1) := by decide +kernel
theorem d250_792 : decode (zB 250) 792 = .ok (.iconst 1, 1) := by decide +kernel
theorem d250_793 : decode (zB 250) 793 = .ok (.iadd, 1) := by decide +kernel
theorem d250_794 : decode (zB 250) 794 = .ok (.iaload, 1) := by decide +kernel
theorem d250_795 : decode (zB 250) 795 = .ok (.invokevirtual 105, 3) := by decide +kernel
theorem d250_798 : decode (zB 250) 798 = .ok (.aload_n 2, 1) := by decide +kernel
theorem d250_799 : decode (zB 250) 799 = .ok (.aload_n 0, 1) := by decide +kernel
theorem d250_800 : decode (zB 250) 800 = .ok (.iload_n 3, 1) := by decide +kernel
theorem d250_801 : decode (zB 250) 801 = .ok (.iconst 1, 1) := by decide +kernel
theorem d250_802 : decode (zB 250) 802 = .ok (.iadd, 1) := by decide +kernel
theorem d250_803 : decode (zB 250) 803 = .ok (.iaload, 1) := by decide +kernel
theorem d250_804 : decode (zB 250) 804 = .ok (.invokevirtual 108, 3) := by decide +kernel
theorem d250_807 : decode (zB 250) 807 = .ok (.if_icmp .eq 255, 3) := by decide +kernel
theorem d250_810 : decode (zB 250) 810 = .ok (.iconst 0, 1) := by decide +kernel
theorem d250_811 : decode (zB 250) 811 = .ok (.ireturn, 1) := by decide +kernel
theorem d250_812 : decode (zB 250) 812 = .ok (.aload_n 1, 1) := by decide +kernel
theorem d250_813 : decode (zB 250) 813 = .ok (.aload_n 0, 1) := by decide +kernel
theorem d250_814 : decode (zB 250) 814 = .ok (.iload_n 3, 1) := by decide +kernel
theorem d250_815 : decode (zB 250) 815 = .ok (.iconst 1, 1) := by decide +kernel
theorem d250_816 : decode (zB 250) 816 = .ok (.iadd, 1) := by decide +kernel
theorem d250_817 : decode (zB 250) 817 = .ok (.iaload, 1) := by decide +kernel
theorem d250_818 : decode (zB 250) 818 = .ok (.aload_n 0, 1) := by decide +kernel
theorem d250_819 : decode (zB 250) 819 = .ok (.iload_n 3, 1) := by decide +kernel
theorem d250_820 : decode (zB 250) 820 = .ok (.iconst 2, 1) := by decide +kernel
theorem d250_821 : decode (zB 250) 821 = .ok (.iadd, 1) := by decide +kernel
theorem d250_822 : decode (zB 250) 822 = .ok (.iaload, 1) := by decide +kernel
theorem d250_823 : decode (zB 250) 823 = .ok (.aload_n 0, 1) := by decide +kernel
theorem d250_824 : decode (zB 250) 824 = .ok (.iload_n 3, 1) := by decide +kernel
theorem d250_825 : decode (zB 250) 825 = .ok (.iconst 3, 1) := by decide +kernel
theorem d250_826 : decode (zB 250) 826 = .ok (.iadd, 1) := by decide +kernel
theorem d250_827 : decode (zB 250) 827 = .ok (.iaload, 1) := by decide +kernel
theorem d250_828 : decode (zB 250) 828 = .ok (.aload_n 0, 1) := by decide +kernel
theorem d250_829 : decode (zB 250) 829 = .ok (.iload_n 3, 1) := by decide +kernel
theorem d250_830 : decode (zB 250) 830 = .ok (.iconst 4, 1) := by decide +kernel
theorem d250_831 : decode (zB 250) 831 = .ok (.iadd, 1) := by decide +kernel
theorem d250_832 : decode (zB 250) 832 = .ok (.iaload, 1) := by decide +kernel
theorem d250_833 : decode (zB 250) 833 = .ok (.aload_n 0, 1) := by decide +kernel
theorem d250_834 : decode (zB 250) 834 = .ok (.iload_n 3, 1) := by decide +kernel
theorem d250_835 : decode (zB 250) 835 = .ok (.iconst 5, 1) := by decide +kernel
theorem d250_836 : decode (zB 250) 836 = .ok (.iadd, 1) := by decide +kernel
theorem d250_837 : decode (zB 250) 837 = .ok (.iaload, 1) := by decide +kernel
theorem d250_838 : decode (zB 250) 838 = .ok (.invokevirtual 109, 3) := by decide +kernel
theorem d250_841 : decode (zB 250) 841 = .ok (.aload_n 2, 1) := by decide +kernel
theorem d250_842 : decode (zB 250) 842 = .ok (.aload_n 0, 1) := by decide +kernel
theorem d250_843 : decode (zB 250) 843 = .ok (.iload_n 3, 1) := by decide +kernel
theorem d250_844 : decode (zB 250) 844 = .ok (.iconst 1, 1) := by decide +kernel
theorem d250_845 : decode (zB 250) 845 = .ok (.iadd, 1) := by decide +kernel
theorem d250_846 : decode (zB 250) 846 = .ok (.iaload, 1) := by decide +kernel
theorem d250_847 : decode (zB 250) 847 = .ok (.aload_n 0, 1) := by decide +kernel
theorem d250_848 : decode (zB 250) 848 = .ok (.iload_n 3, 1) := by decide +kernel
theorem d250_849 : decode (zB 250) 849 = .ok (.iconst 2, 1) := by decide +kernel
theorem d250_850 : decode (zB 250) 850 = .ok (.iadd, 1) := by decide +kernel
theorem d250_851 : decode (zB 250) 851 = .ok (.iaload, 1) := by decide +kernel
theorem d250_852 : decode (zB 250) 852 = .ok (.aload_n 0, 1) := by decide +kernel
theorem d250_853 : decode (zB 250) 853 = .ok (.iload_n 3, 1) := by decide +kernel
theorem d250_854 : decode (zB 250) 854 = .ok (.iconst 3, 1) := by decide +kernel
theorem d250_855 : decode (zB 250) 855 = .ok (.iadd, 1) := by decide +kernel
theorem d250_856 : decode (zB 250) 856 = .ok (.iaload, 1) := by decide +kernel
theorem d250_857 : decode (zB 250) 857 = .ok (.aload_n 0, 1) := by decide +kernel
theorem d250_858 : decode (zB 250) 858 = .ok (.iload_n 3, 1) := by decide +kernel
theorem d250_859 : decode (zB 250) 859 = .ok (.iconst 4, 1) := by decide +kernel
theorem d250_860 : decode (zB 250) 860 = .ok (.iadd, 1) := by decide +kernel
theorem d250_861 : decode (zB 250) 861 = .ok (.iaload, 1) := by decide +kernel
theorem d250_862 : decode (zB 250) 862 = .ok (.aload_n 0, 1) := by decide +kernel
theorem d250_863 : decode (zB 250) 863 = .ok (.iload_n 3, 1) := by decide +kernel
theorem d250_864 : decode (zB 250) 864 = .ok (.iconst 5, 1) := by decide +kernel
theorem d250_865 : decode (zB 250) 865 = .ok (.iadd, 1) := by decide +kernel
theorem d250_866 : decode (zB 250) 866 = .ok (.iaload, 1) := by decide +kernel
theorem d250_867 : decode (zB 250) 867 = .ok (.invokevirtual 112, 3) := by decide +kernel
theorem d250_870 : decode (zB 250) 870 = .ok (.if_icmp .eq 192, 3) := by decide +kernel
theorem d250_873 : decode (zB 250) 873 = .ok (.iconst 0, 1) := by decide +kernel
theorem d250_874 : decode (zB 250) 874 = .ok (.ireturn, 1) := by decide +kernel
theorem d250_875 : decode (zB 250) 875 = .ok (.aload_n 1, 1) := by decide +kernel
theorem d250_876 : decode (zB 250) 876 = .ok (.aload_n 0, 1) := by decide +kernel
theorem d250_877 : decode (zB 250) 877 = .ok (.iload_n 3, 1) := by decide +kernel
theorem d250_878 : decode (zB 250) 878 = .ok (.iconst 1, 1) := by decide +kernel
theorem d250_879 : decode (zB 250) 879 = .ok (.iadd, 1) := by decide +kernel
theorem d250_880 : decode (zB 250) 880 = .ok (.iaload, 1) := by decide +kernel
theorem d250_881 : decode (zB 250) 881 = .ok (.aload_n 0, 1) := by decide +kernel
theorem d250_882 : decode (zB 250) 882 = .ok (.iload_n 3, 1) := by decide +kernel
theorem d250_883 : decode (zB 250) 883 = .ok (.iconst 2, 1) := by decide +kernel
theorem d250_884 : decode (zB 250) 884 = .ok (.iadd, 1) := by decide +kernel
theorem d250_885 : decode (zB 250) 885 = .ok (.iaload, 1) := by decide +kernel
theorem d250_886 : decode (zB 250) 886 = .ok (.invokevirtual 113, 3) := by decide +kernel
theorem d250_889 : decode (zB 250) 889 = .ok (.aload_n 2, 1) := by decide +kernel
theorem d250_890 : decode (zB 250) 890 = .ok (.aload_n 0, 1) := by decide +kernel
theorem d250_891 : decode (zB 250) 891 = .ok (.iload_n 3, 1) := by decide +kernel
theorem d250_892 : decode (zB 250) 892 = .ok (.iconst 1, 1) := by decide +kernel
theorem d250_893 : decode (zB 250) 893 = .ok (.iadd, 1) := by decide +kernel
theorem d250_894 : decode (zB 250) 894 = .ok (.iaload, 1) := by decide +kernel
theorem d250_895 : decode (zB 250) 895 = .ok (.aload_n 0, 1) := by decide +kernel
theorem d250_896 : decode (zB 250) 896 = .ok (.iload_n 3, 1) := by decide +kernel
theorem d250_897 : decode (zB 250) 897 = .ok (.iconst 2, 1) := by decide +kernel
theorem d250_898 : decode (zB 250) 898 = .ok (.iadd, 1) := by decide +kernel
theorem d250_899 : decode (zB 250) 899 = .ok (.iaload, 1) := by decide +kernel
theorem d250_900 : decode (zB 250) 900 = .ok (.invokevirtual 116, 3) := by decide +kernel
theorem d250_903 : decode (zB 250) 903 = .ok (.if_icmp .eq 159, 3) := by decide +kernel
theorem d250_906 : decode (zB 250) 906 = .ok (.iconst 0, 1) := by decide +kernel
theorem d250_907 : decode (zB 250) 907 = .ok (.ireturn, 1) := by decide +kernel
theorem d250_908 : decode (zB 250) 908 = .ok (.aload_n 1, 1) := by decide +kernel
theorem d250_909 : decode (zB 250) 909 = .ok (.aload_n 0, 1) := by decide +kernel
theorem d250_910 : decode (zB 250) 910 = .ok (.iload_n 3, 1) := by decide +kernel
theorem d250_911 : decode (zB 250) 911 = .ok (.iconst 1, 1) := by decide +kernel
theorem d250_912 : decode (zB 250) 912 = .ok (.iadd, 1) := by decide +kernel
theorem d250_913 : decode (zB 250) 913 = .ok (.iaload, 1) := by decide +kernel
theorem d250_914 : decode (zB 250) 914 = .ok (.invokevirtual 117, 3) := by decide +kernel
theorem d250_917 : decode (zB 250) 917 = .ok (.aload_n 2, 1) := by decide +kernel
theorem d250_918 : decode (zB 250) 918 = .ok (.aload_n 0, 1) := by decide +kernel
theorem d250_919 : decode (zB 250) 919 = .ok (.iload_n 3, 1) := by decide +kernel
theorem d250_920 : decode (zB 250) 920 = .ok (.iconst 1, 1) := by decide +kernel
theorem d250_921 : decode (zB 250) 921 = .ok (.iadd, 1) := by decide +kernel
theorem d250_922 : decode (zB 250) 922 = .ok (.iaload, 1) := by decide +kernel
theorem d250_923 : decode (zB 250) 923 = .ok (.invokevirtual 120, 3) := by decide +kernel
theorem d250_926 : decode (zB 250) 926 = .ok (.if_icmp .eq 136, 3) := by decide +kernel
theorem d250_929 : decode (zB 250) 929 = .ok (.iconst 0, 1) := by decide +kernel
theorem d250_930 : decode (zB 250) 930 = .ok (.ireturn, 1) := by decide +kernel
theorem d250_931 : decode (zB 250) 931 = .ok (.aload_n 1, 1) := by decide +kernel
theorem d250_932 : decode (zB 250) 932 = .ok (.aload_n 0, 1) := by decide +kernel
theorem d250_933 : decode (zB 250) 933 = .ok (.iload_n 3, 1) := by decide +kernel
theorem d250_934 : decode (zB 250) 934 = .ok (.iconst 1, 1) := by decide +kernel
theorem d250_935 : decode (zB 250) 935 = .ok (.iadd, 1) := by decide +kernel
theorem d250_936 : decode (zB 250) 936 = .ok (.iaload, 1) := by decide +kernel
theorem d250_937 : decode (zB 250) 937 = .ok (.invokevirtual 121, 3) := by decide +kernel
theorem d250_940 : decode (zB 250) 940 = .ok (.aload_n 2, 1) := by decide +kernel
theorem d250_941 : decode (zB 250) 941 = .ok (.aload_n 0, 1) := by decide +kernel
theorem d250_942 : decode (zB 250) 942 = .ok (.iload_n 3, 1) := by decide +kernel
theorem d250_943 : decode (zB 250) 943 = .ok (.iconst 1, 1) := by decide +kernel
theorem d250_944 : decode (zB 250) 944 = .ok (.iadd, 1) := by decide +kernel
theorem d250_945 : decode (zB 250) 945 = .ok (.iaload, 1) := by decide +kernel
theorem d250_946 : decode (zB 250) 946 = .ok (.invokevirtual 124, 3) := by decide +kernel
theorem d250_949 : decode (zB 250) 949 = .ok (.if_icmp .eq 113, 3) := by decide +kernel
theorem d250_952 : decode (zB 250) 952 = .ok (.iconst 0, 1) := by decide +kernel
theorem d250_953 : decode (zB 250) 953 = .ok (.ireturn, 1) := by decide +kernel
theorem d250_954 : decode (zB 250) 954 = .ok (.aload_n 1, 1) := by decide +kernel
theorem d250_955 : decode (zB 250) 955 = .ok (.aload_n 0, 1) := by decide +kernel
theorem d250_956 : decode (zB 250) 956 = .ok (.iload_n 3, 1) := by decide +kernel
theorem d250_957 : decode (zB 250) 957 = .ok (.iconst 1, 1) := by decide +kernel
theorem d250_958 : decode (zB 250) 958 = .ok (.iadd, 1) := by decide +kernel
theorem d250_959 : decode (zB 250) 959 = .ok (.iaload, 1) := by decide +kernel
theorem d250_960 : decode (zB 250) 960 = .ok (.invokevirtual 125, 3) := by decide +kernel
theorem d250_963 : decode (zB 250) 963 = .ok (.aload_n 2, 1) := by decide +kernel
theorem d250_964 : decode (zB 250) 964 = .ok (.aload_n 0, 1) := by decide +kernel
theorem d250_965 : decode (zB 250) 965 = .ok (.iload_n 3, 1) := by decide +kernel
theorem d250_966 : decode (zB 250) 966 = .ok (.iconst 1, 1) := by decide +kernel
theorem d250_967 : decode (zB 250) 967 = .ok (.iadd, 1) := by decide +kernel
theorem d250_968 : decode (zB 250) 968 = .ok (.iaload, 1) := by decide +kernel
theorem d250_969 : decode (zB 250) 969 = .ok (.invokevirtual 128, 3) := by decide +kernel
theorem d250_972 : decode (zB 250) 972 = .ok (.if_icmp .eq 90, 3) := by decide +kernel
theorem d250_975 : decode (zB 250) 975 = .ok (.iconst 0, 1) := by decide +kernel
theorem d250_976 : decode (zB 250) 976 = .ok (.ireturn, 1) := by decide +kernel
theorem d250_977 : decode (zB 250) 977 = .ok (.aload_n 1, 1) := by decide +kernel
theorem d250_978 : decode (zB 250) 978 = .ok (.invokevirtual 129, 3) := by decide +kernel
theorem d250_981 : decode (zB 250) 981 = .ok (.aload_n 2, 1) := by decide +kernel
theorem d250_982 : decode (zB 250) 982 = .ok (.invokevirtual 132, 3) := by decide +kernel
theorem d250_985 : decode (zB 250) 985 = .ok (.if_icmp .eq 77, 3) := by decide +kernel
theorem d250_988 : decode (zB 250) 988 = .ok (.iconst 0, 1) := by decide +kernel
theorem d250_989 : decode (zB 250) 989 = .ok (.ireturn, 1) := by decide +kernel
theorem d250_990 : decode (zB 250) 990 = .ok (.aload_n 1, 1) := by decide +kernel
theorem d250_991 : decode (zB 250) 991 = .ok (.invokevirtual 133, 3) := by decide +kernel
theorem d250_994 : decode (zB 250) 994 = .ok (.aload_n 2, 1) := by decide +kernel
theorem d250_995 : decode (zB 250) 995 = .ok (.invokevirtual 136, 3) := by decide +kernel
theorem d250_998 : decode (zB 250) 998 = .ok (.if_icmp .eq 64, 3) := by decide +kernel
theorem d250_1001 : decode (zB 250) 1001 = .ok (.iconst 0, 1) := by decide +kernel
theorem d250_1002 : decode (zB 250) 1002 = .ok (.ireturn, 1) := by decide +kernel
theorem d250_1003 : decode (zB 250) 1003 = .ok (.aload_n 1, 1) := by decide +kernel
theorem d250_1004 : decode (zB 250) 1004 = .ok (.invokevirtual 137, 3) := by decide +kernel
theorem d250_1007 : decode (zB 250) 1007 = .ok (.aload_n 2, 1) := by decide +kernel
theorem d250_1008 : decode (zB 250) 1008 = .ok (.invokevirtual 141, 3) := by decide +kernel
theorem d250_1011 : decode (zB 250) 1011 = .ok (.if_icmp .eq 51, 3) := by decide +kernel
theorem d250_1014 : decode (zB 250) 1014 = .ok (.iconst 0, 1) := by decide +kernel
theorem d250_1015 : decode (zB 250) 1015 = .ok (.ireturn, 1) := by decide +kernel
theorem d250_1016 : decode (zB 250) 1016 = .ok (.aload_n 1, 1) := by decide +kernel
theorem d250_1017 : decode (zB 250) 1017 = .ok (.aload_n 0, 1) := by decide +kernel
theorem d250_1018 : decode (zB 250) 1018 = .ok (.iload_n 3, 1) := by decide +kernel
theorem d250_1019 : decode (zB 250) 1019 = .ok (.iconst 1, 1) := by decide +kernel
theorem d250_1020 : decode (zB 250) 1020 = .ok (.iadd, 1) := by decide +kernel
theorem d250_1021 : decode (zB 250) 1021 = .ok (.iaload, 1) := by decide +kernel
theorem d250_1022 : decode (zB 250) 1022 = .ok (.invokevirtual 142, 3) := by decide +kernel
theorem d250_1025 : decode (zB 250) 1025 = .ok (.aload_n 2, 1) := by decide +kernel
theorem d250_1026 : decode (zB 250) 1026 = .ok (.aload_n 0, 1) := by decide +kernel
theorem d250_1027 : decode (zB 250) 1027 = .ok (.iload_n 3, 1) := by decide +kernel
theorem d250_1028 : decode (zB 250) 1028 = .ok (.iconst 1, 1) := by decide +kernel
theorem d250_1029 : decode (zB 250) 1029 = .ok (.iadd, 1) := by decide +kernel
theorem d250_1030 : decode (zB 250) 1030 = .ok (.iaload, 1) := by decide +kernel
theorem d250_1031 : decode (zB 250) 1031 = .ok (.invokevirtual 145, 3) := by decide +kernel
theorem d250_1034 : decode (zB 250) 1034 = .ok (.if_icmp .eq 28, 3) := by decide +kernel
theorem d250_1037 : decode (zB 250) 1037 = .ok (.iconst 0, 1) := by decide +kernel
theorem d250_1038 : decode (zB 250) 1038 = .ok (.ireturn, 1) := by decide +kernel
theorem d250_1039 : decode (zB 250) 1039 = .ok (.aload_n 1, 1) := by decide +kernel
theorem d250_1040 : decode (zB 250) 1040 = .ok (.aload_n 0, 1) := by decide +kernel
theorem d250_1041 : decode (zB 250) 1041 = .ok (.iload_n 3, 1) := by decide +kernel
theorem d250_1042 : decode (zB 250) 1042 = .ok (.iconst 1, 1) := by decide +kernel
theorem d250_1043 : decode (zB 250) 1043 = .ok (.iadd, 1) := by decide +kernel
theorem d250_1044 : decode (zB 250) 1044 = .ok (.iaload, 1) := by decide +kernel
theorem d250_1045 : decode (zB 250) 1045 = .ok (.invokevirtual 146, 3) := by decide +kernel
theorem d250_1048 : decode (zB 250) 1048 = .ok (.aload_n 2, 1) := by decide +kernel
theorem d250_1049 : decode (zB 250) 1049 = .ok (.aload_n 0, 1) := by decide +kernel
theorem d250_1050 : decode (zB 250) 1050 = .ok (.iload_n 3, 1) := by decide +kernel
theorem d250_1051 : decode (zB 250) 1051 = .ok (.iconst 1, 1) := by decide +kernel
theorem d250_1052 : decode (zB 250) 1052 = .ok (.iadd, 1) := by decide +kernel
theorem d250_1053 : decode (zB 250) 1053 = .ok (.iaload, 1) := by decide +kernel
theorem d250_1054 : decode (zB 250) 1054 = .ok (.invokevirtual 149, 3) := by decide +kernel
theorem d250_1057 : decode (zB 250) 1057 = .ok (.if_icmp .eq 5, 3) := by decide +kernel
theorem d250_1060 : decode (zB 250) 1060 = .ok (.iconst 0, 1) := by decide +kernel
theorem d250_1061 : decode (zB 250) 1061 = .ok (.ireturn, 1) := by decide +kernel
theorem d250_1062 : decode (zB 250) 1062 = .ok (.iinc 3 6, 3) := by decide +kernel
theorem d250_1065 : decode (zB 250) 1065 = .ok (.goto (-1047), 3) := by decide +kernel
theorem d250_1068 : decode (zB 250) 1068 = .ok (.iconst 1, 1) := by decide +kernel
theorem d250_1069 : decode (zB 250) 1069 = .ok (.ireturn, 1) := by decide +kernel
