theorem d139_0 : decode (zB 139) 0 = .ok (.aload_n 0, 1) := by decide +kernel
theorem d139_1 : decode (zB 139) 1 = .ok (.invokespecial 1, 3) := by decide +kernel
theorem d139_4 : decode (zB 139) 4 = .ok (.aload_n 0, 1) := by decide +kernel
theorem d139_5 : decode (zB 139) 5 = .ok (.bipush 32, 2) := by decide +kernel
theorem d139_7 : decode (zB 139) 7 = .ok (.newarray .int, 2) := by decide +kernel
theorem d139_9 : decode (zB 139) 9 = .ok (.putfield 7, 3) := by decide +kernel
theorem d139_12 : decode (zB 139) 12 = .ok (.aload_n 0, 1) := by decide +kernel
theorem d139_13 : decode (zB 139) 13 = .ok (.bipush 32, 2) := by decide +kernel
theorem d139_15 : decode (zB 139) 15 = .ok (.newarray .int, 2) := by decide +kernel
theorem d139_17 : decode (zB 139) 17 = .ok (.putfield 13, 3) := by decide +kernel
theorem d139_20 : decode (zB 139) 20 = .ok (.aload_n 0, 1) := by decide +kernel
theorem d139_21 : decode (zB 139) 21 = .ok (.bipush 32, 2) := by decide +kernel
theorem d139_23 : decode (zB 139) 23 = .ok (.newarray .int, 2) := by decide +kernel
theorem d139_25 : decode (zB 139) 25 = .ok (.putfield 16, 3) := by decide +kernel
theorem d139_28 : decode (zB 139) 28 = .ok (.aload_n 0, 1) := by decide +kernel
theorem d139_29 : decode (zB 139) 29 = .ok (.bipush 32, 2) := by decide +kernel
theorem d139_31 : decode (zB 139) 31 = .ok (.newarray .int, 2) := by decide +kernel
theorem d139_33 : decode (zB 139) 33 = .ok (.putfield 19, 3) := by decide +kernel
theorem d139_36 : decode (zB 139) 36 = .ok (.aload_n 0, 1) := by decide +kernel
theorem d139_37 : decode (zB 139) 37 = .ok (.bipush 32, 2) := by decide +kernel
theorem d139_39 : decode (zB 139) 39 = .ok (.newarray .int, 2) := by decide +kernel
theorem d139_41 : decode (zB 139) 41 = .ok (.putfield 22, 3) := by decide +kernel
theorem d139_44 : decode (zB 139) 44 = .ok (.aload_n 0, 1) := by decide +kernel
theorem d139_45 : decode (zB 139) 45 = .ok (.bipush 20, 2) := by decide +kernel
theorem d139_47 : decode (zB 139) 47 = .ok (.newarray .int, 2) := by decide +kernel
theorem d139_49 : decode (zB 139) 49 = .ok (.putfield 25, 3) := by decide +kernel
theorem d139_52 : decode (zB 139) 52 = .ok (.aload_n 0, 1) := by decide +kernel
theorem d139_53 : decode (zB 139) 53 = .ok (.sipush 220, 3) := by decide +kernel
theorem d139_56 : decode (zB 139) 56 = .ok (.newarray .byte, 2) := by decide +kernel
theorem d139_58 : decode (zB 139) 58 = .ok (.putfield 28, 3) := by decide +kernel
theorem d139_61 : decode (zB 139) 61 = .ok (.aload_n 0, 1) := by decide +kernel
theorem d139_62 : decode (zB 139) 62 = .ok (.sipush 220, 3) := by decide +kernel
theorem d139_65 : decode (zB 139) 65 = .ok (.newarray .int, 2) := by decide +kernel
theorem d139_67 : decode (zB 139) 67 = .ok (.putfield 32, 3) := by decide +kernel
theorem d139_70 : decode (zB 139) 70 = .ok (.aload_n 0, 1) := by decide +kernel
theorem d139_71 : decode (zB 139) 71 = .ok (.sipush 220, 3) := by decide +kernel
theorem d139_74 : decode (zB 139) 74 = .ok (.newarray .int, 2) := by decide +kernel
theorem d139_76 : decode (zB 139) 76 = .ok (.putfield 35, 3) := by decide +kernel
theorem d139_79 : decode (zB 139) 79 = .ok (.aload_n 0, 1) := by decide +kernel
theorem d139_80 : decode (zB 139) 80 = .ok (.bipush 14, 2) := by decide +kernel
theorem d139_82 : decode (zB 139) 82 = .ok (.newarray .int, 2) := by decide +kernel
theorem d139_84 : decode (zB 139) 84 = .ok (.putfield 38, 3) := by decide +kernel
theorem d139_87 : decode (zB 139) 87 = .ok (.aload_n 0, 1) := by decide +kernel
theorem d139_88 : decode (zB 139) 88 = .ok (.bipush 14, 2) := by decide +kernel
theorem d139_90 : decode (zB 139) 90 = .ok (.newarray .int, 2) := by decide +kernel
theorem d139_92 : decode (zB 139) 92 = .ok (.putfield 41, 3) := by decide +kernel
theorem d139_95 : decode (zB 139) 95 = .ok (.aload_n 0, 1) := by decide +kernel
theorem d139_96 : decode (zB 139) 96 = .ok (.bipush 14, 2) := by decide +kernel
theorem d139_98 : decode (zB 139) 98 = .ok (.newarray .int, 2) := by decide +kernel
theorem d139_100 : decode (zB 139) 100 = .ok (.putfield 44, 3) := by decide +kernel
theorem d139_103 : decode (zB 139) 103 = .ok (.aload_n 0, 1) := by decide +kernel
theorem d139_104 : decode (zB 139) 104 = .ok (.bipush 14, 2) := by decide +kernel
theorem d139_106 : decode (zB 139) 106 = .ok (.newarray .int, 2) := by decide +kernel
theorem d139_108 : decode (zB 139) 108 = .ok (.putfield 47, 3) := by decide +kernel
theorem d139_111 : decode (zB 139) 111 = .ok (.aload_n 0, 1) := by decide +kernel
theorem d139_112 : decode (zB 139) 112 = .ok (.sipush 220, 3) := by decide +kernel
theorem d139_115 : decode (zB 139) 115 = .ok (.newarray .int, 2) := by decide +kernel
theorem d139_117 : decode (zB 139) 117 = .ok (.putfield 50, 3) := by decide +kernel
theorem d139_120 : decode (zB 139) 120 = .ok (.aload_n 0, 1) := by decide +kernel
theorem d139_121 : decode (zB 139) 121 = .ok (.bipush 14, 2) := by decide +kernel
theorem d139_123 : decode (zB 139) 123 = .ok (.newarray .int, 2) := by decide +kernel
theorem d139_125 : decode (zB 139) 125 = .ok (.putfield 53, 3) := by decide +kernel
theorem d139_128 : decode (zB 139) 128 = .ok (.aload_n 0, 1) := by decide +kernel
theorem d139_129 : decode (zB 139) 129 = .ok (.bipush 14, 2) := by decide +kernel
theorem d139_131 : decode (zB 139) 131 = .ok (.newarray .int, 2) := by decide +kernel
theorem d139_133 : decode (zB 139) 133 = .ok (.putfield 56, 3) := by decide +kernel
theorem d139_136 : decode (zB 139) 136 = .ok (.aload_n 0, 1) := by decide +kernel
theorem d139_137 : decode (zB 139) 137 = .ok (.bipush 14, 2) := by decide +kernel
theorem d139_139 : decode (zB 139) 139 = .ok (.newarray .int, 2) := by decide +kernel
theorem d139_141 : decode (zB 139) 141 = .ok (.putfield 59, 3) := by decide +kernel
theorem d139_144 : decode (zB 139) 144 = .ok (.aload_n 0, 1) := by decide +kernel
theorem d139_145 : decode (zB 139) 145 = .ok (.bipush 14, 2) := by decide +kernel
theorem d139_147 : decode (zB 139) 147 = .ok (.newarray .int, 2) := by decide +kernel
theorem d139_149 : decode (zB 139) 149 = .ok (.putfield 62, 3) := by decide +kernel
theorem d139_152 : decode (zB 139) 152 = .ok (.aload_n 0, 1) := by decide +kernel
theorem d139_153 : decode (zB 139) 153 = .ok (.sipush 220, 3) := by decide +kernel
theorem d139_156 : decode (zB 139) 156 = .ok (.newarray .int, 2) := by decide +kernel
theorem d139_158 : decode (zB 139) 158 = .ok (.putfield 65, 3) := by decide +kernel
theorem d139_161 : decode (zB 139) 161 = .ok (.aload_n 0, 1) := by decide +kernel
theorem d139_162 : decode (zB 139) 162 = .ok (.bipush 8, 2) := by decide +kernel
theorem d139_164 : decode (zB 139) 164 = .ok (.newarray .int, 2) := by decide +kernel
theorem d139_166 : decode (zB 139) 166 = .ok (.putfield 68, 3) := by decide +kernel
theorem d139_169 : decode (zB 139) 169 = .ok (.aload_n 0, 1) := by decide +kernel
theorem d139_170 : decode (zB 139) 170 = .ok (.bipush 32, 2) := by decide +kernel
theorem d139_172 : decode (zB 139) 172 = .ok (.newarray .int, 2) := by decide +kernel
theorem d139_174 : decode (zB 139) 174 = .ok (.putfield 71, 3) := by decide +kernel
theorem d139_177 : decode (zB 139) 177 = .ok (.aload_n 0, 1) := by decide +kernel
theorem d139_178 : decode (zB 139) 178 = .ok (.bipush 32, 2) := by decide +kernel
theorem d139_180 : decode (zB 139) 180 = .ok (.newarray .int, 2) := by decide +kernel
theorem d139_182 : decode (zB 139) 182 = .ok (.putfield 74, 3) := by decide +kernel
theorem d139_185 : decode (zB 139) 185 = .ok (.aload_n 0, 1) := by decide +kernel
theorem d139_186 : decode (zB 139) 186 = .ok (.bipush 32, 2) := by decide +kernel
theorem d139_188 : decode (zB 139) 188 = .ok (.newarray .int, 2) := by decide +kernel
theorem d139_190 : decode (zB 139) 190 = .ok (.putfield 77, 3) := by decide +kernel
theorem d139_193 : decode (zB 139) 193 = .ok (.aload_n 0, 1) := by decide +kernel
theorem d139_194 : decode (zB 139) 194 = .ok (.bipush 32, 2) := by decide +kernel
theorem d139_196 : decode (zB 139) 196 = .ok (.newarray .int, 2) := by decide +kernel
theorem d139_198 : decode (zB 139) 198 = .ok (.putfield 80, 3) := by decide +kernel
theorem d139_201 : decode (zB 139) 201 = .ok (.aload_n 0, 1) := by decide +kernel
theorem d139_202 : decode (zB 139) 202 = .ok (.bipush 20, 2) := by decide +kernel
theorem d139_204 : decode (zB 139) 204 = .ok (.newarray .int, 2) := by decide +kernel
theorem d139_206 : decode (zB 139) 206 = .ok (.putfield 83, 3) := by decide +kernel
theorem d139_209 : decode (zB 139) 209 = .ok (.aload_n 0, 1) := by decide +kernel
theorem d139_210 : decode (zB 139) 210 = .ok (.bipush 20, 2) := by decide +kernel
theorem d139_212 : decode (zB 139) 212 = .ok (.newarray .int, 2) := by decide +kernel
theorem d139_214 : decode (zB 139) 214 = .ok (.putfield 86, 3) := by decide +kernel
theorem d139_217 : decode (zB 139) 217 = .ok (.aload_n 0, 1) := by decide +kernel
theorem d139_218 : decode (zB 139) 218 = .ok (.bipush 20, 2) := by decide +kernel
theorem d139_220 : decode (zB 139) 220 = .ok (.newarray .int, 2) := by decide +kernel
theorem d139_222 : decode (zB 139) 222 = .ok (.putfield 89, 3) := by decide +kernel
theorem d139_225 : decode (zB 139) 225 = .ok (.aload_n 0, 1) := by decide +kernel
theorem d139_226 : decode (zB 139) 226 = .ok (.iconst 5, 1) := by decide +kernel
theorem d139_227 : decode (zB 139) 227 = .ok (.newarray .int, 2) := by decide +kernel
theorem d139_229 : decode (zB 139) 229 = .ok (.putfield 92, 3) := by decide +kernel
theorem d139_232 : decode (zB 139) 232 = .ok (.aload_n 0, 1) := by decide +kernel
theorem d139_233 : decode (zB 139) 233 = .ok (.bipush 100, 2) := by decide +kernel
theorem d139_235 : decode (zB 139) 235 = .ok (.newarray .int, 2) := by decide +kernel
theorem d139_237 : decode (zB 139) 237 = .ok (.putfield 95, 3) := by decide +kernel
theorem d139_240 : decode (zB 139) 240 = .ok (.aload_n 0, 1) := by decide +kernel
theorem d139_241 : decode (zB 139) 241 = .ok (.bipush 20, 2) := by decide +kernel
theorem d139_243 : decode (zB 139) 243 = .ok (.newarray .int, 2) := by decide +kernel
theorem d139_245 : decode (zB 139) 245 = .ok (.putfield 98, 3) := by decide +kernel
theorem d139_248 : decode (zB 139) 248 = .ok (.aload_n 0, 1) := by decide +kernel
theorem d139_249 : decode (zB 139) 249 = .ok (.sipush 5200, 3) := by decide +kernel
theorem d139_252 : decode (zB 139) 252 = .ok (.newarray .int, 2) := by decide +kernel
theorem d139_254 : decode (zB 139) 254 = .ok (.putfield 101, 3) := by decide +kernel
theorem d139_257 : decode (zB 139) 257 = .ok (.aload_n 0, 1) := by decide +kernel
theorem d139_258 : decode (zB 139) 258 = .ok (.sipush 210, 3) := by decide +kernel
theorem d139_261 : decode (zB 139) 261 = .ok (.newarray .int, 2) := by decide +kernel
theorem d139_263 : decode (zB 139) 263 = .ok (.putfield 104, 3) := by decide +kernel
theorem d139_266 : decode (zB 139) 266 = .ok (.aload_n 0, 1) := by decide +kernel
theorem d139_267 : decode (zB 139) 267 = .ok (.bipush 32, 2) := by decide +kernel
theorem d139_269 : decode (zB 139) 269 = .ok (.newarray .int, 2) := by decide +kernel
theorem d139_271 : decode (zB 139) 271 = .ok (.putfield 107, 3) := by decide +kernel
theorem d139_274 : decode (zB 139) 274 = .ok (.aload_n 0, 1) := by decide +kernel
theorem d139_275 : decode (zB 139) 275 = .ok (.bipush 10, 2) := by decide +kernel
theorem d139_277 : decode (zB 139) 277 = .ok (.newarray .int, 2) := by decide +kernel
theorem d139_279 : decode (zB 139) 279 = .ok (.putfield 110, 3) := by decide +kernel
theorem d139_282 : decode (zB 139) 282 = .ok (.aload_n 0, 1) := by decide +kernel
theorem d139_283 : decode (zB 139) 283 = .ok (.bipush 110, 2) := by decide +kernel
theorem d139_285 : decode (zB 139) 285 = .ok (.newarray .int, 2) := by decide +kernel
theorem d139_287 : decode (zB 139) 287 = .ok (.putfield 113, 3) := by decide +kernel
theorem d139_290 : decode (zB 139) 290 = .ok (.aload_n 0, 1) := by decide +kernel
theorem d139_291 : decode (zB 139) 291 = .ok (.bipush 8, 2) := by decide +kernel
theorem d139_293 : decode (zB 139) 293 = .ok (.newarray .int, 2) := by decide +kernel
theorem d139_295 : decode (zB 139) 295 = .ok (.putfield 116, 3) := by decide +kernel
theorem d139_298 : decode (zB 139) 298 = .ok (.aload_n 0, 1) := by decide +kernel
theorem d139_299 : decode (zB 139) 299 = .ok (.bipush 8, 2) := by decide +kernel
theorem d139_301 : decode (zB 139) 301 = .ok (.newarray .int, 2) := by decide +kernel
theorem d139_303 : decode (zB 139) 303 = .ok (.putfield 119, 3) := by decide +kernel
theorem d139_306 : decode (zB 139) 306 = .ok (.aload_n 0, 1) := by decide +kernel
theorem d139_307 : decode (zB 139) 307 = .ok (.bipush 8, 2) := by decide +kernel
theorem d139_309 : decode (zB 139) 309 = .ok (.newarray .int, 2) := by decide +kernel
theorem d139_311 : decode (zB 139) 311 = .ok (.putfield 122, 3) := by decide +kernel
theorem d139_314 : decode (zB 139) 314 = .ok (.aload_n 0, 1) := by decide +kernel
theorem d139_315 : decode (zB 139) 315 = .ok (.sipush 2304, 3) := by decide +kernel
theorem d139_318 : decode (zB 139) 318 = .ok (.newarray .int, 2) := by decide +kernel
theorem d139_320 : decode (zB 139) 320 = .ok (.putfield 125, 3) := by decide +kernel
theorem d139_323 : decode (zB 139) 323 = .ok (.aload_n 0, 1) := by decide +kernel
theorem d139_324 : decode (zB 139) 324 = .ok (.bipush 32, 2) := by decide +kernel
theorem d139_326 : decode (zB 139) 326 = .ok (.newarray .int, 2) := by decide +kernel
theorem d139_328 : decode (zB 139) 328 = .ok (.putfield 128, 3) := by decide +kernel
theorem d139_331 : decode (zB 139) 331 = .ok (.aload_n 0, 1) := by decide +kernel
theorem d139_332 : decode (zB 139) 332 = .ok (.bipush 32, 2) := by decide +kernel
theorem d139_334 : decode (zB 139) 334 = .ok (.newarray .int, 2) := by decide +kernel
theorem d139_336 : decode (zB 139) 336 = .ok (.putfield 131, 3) := by decide +kernel
theorem d139_339 : decode (zB 139) 339 = .ok (.aload_n 0, 1) := by decide +kernel
theorem d139_340 : decode (zB 139) 340 = .ok (.bipush 32, 2) := by decide +kernel
theorem d139_342 : decode (zB 139) 342 = .ok (.newarray .int, 2) := by decide +kernel
theorem d139_344 : decode (zB 139) 344 = .ok (.putfield 134, 3) := by decide +kernel
theorem d139_347 : decode (zB 139) 347 = .ok (.aload_n 0, 1) := by decide +kernel
theorem d139_348 : decode (zB 139) 348 = .ok (.bipush 32, 2) := by decide +kernel
theorem d139_350 : decode (zB 139) 350 = .ok (.newarray .int, 2) := by decide +kernel
theorem d139_352 : decode (zB 139) 352 = .ok (.putfield 137, 3) := by decide +kernel
theorem d139_355 : decode (zB 139) 355 = .ok (.aload_n 0, 1) := by decide +kernel
theorem d139_356 : decode (zB 139) 356 = .ok (.bipush 32, 2) := by decide +kernel
theorem d139_358 : decode (zB 139) 358 = .ok (.newarray .int, 2) := by decide +kernel
theorem d139_360 : decode (zB 139) 360 = .ok (.putfield 140, 3) := by decide +kernel
theorem d139_363 : decode (zB 139) 363 = .ok (.aload_n 0, 1) := by decide +kernel
theorem d139_364 : decode (zB 139) 364 = .ok (.bipush 32, 2) := by decide +kernel
theorem d139_366 : decode (zB 139) 366 = .ok (.newarray .int, 2) := by decide +kernel
theorem d139_368 : decode (zB 139) 368 = .ok (.putfield 143, 3) := by decide +kernel
theorem d139_371 : decode (zB 139) 371 = .ok (.aload_n 0, 1) := by decide +kernel
theorem d139_372 : decode (zB 139) 372 = .ok (.bipush 32, 2) := by decide +kernel
theorem d139_374 : decode (zB 139) 374 = .ok (.newarray .int, 2) := by decide +kernel
theorem d139_376 : decode (zB 139) 376 = .ok (.putfield 146, 3) := by decide +kernel
theorem d139_379 : decode (zB 139) 379 = .ok (.aload_n 0, 1) := by decide +kernel
theorem d139_380 : decode (zB 139) 380 = .ok (.bipush 32, 2) := by decide +kernel
theorem d139_382 : decode (zB 139) 382 = .ok (.newarray .int, 2) := by decide +kernel
theorem d139_384 : decode (zB 139) 384 = .ok (.putfield 149, 3) := by decide +kernel
theorem d139_387 : decode (zB 139) 387 = .ok (.aload_n 0, 1) := by decide +kernel
theorem d139_388 : decode (zB 139) 388 = .ok (.iconst 1, 1) := by decide +kernel
theorem d139_389 : decode (zB 139) 389 = .ok (.putfield 152, 3) := by decide +kernel
theorem d139_392 : decode (zB 139) 392 = .ok (.aload_n 0, 1) := by decide +kernel
theorem d139_393 : decode (zB 139) 393 = .ok (.bipush 9, 2) := by decide +kernel
theorem d139_395 : decode (zB 139) 395 = .ok (.putfield 156, 3) := by decide +kernel
theorem d139_398 : decode (zB 139) 398 = .ok (.iconst 0, 1) := by decide +kernel
theorem d139_399 : decode (zB 139) 399 = .ok (.istore_n 1, 1) := by decide +kernel
theorem d139_400 : decode (zB 139) 400 = .ok (.iload_n 1, 1) := by decide +kernel
theorem d139_401 : decode (zB 139) 401 = .ok (.bipush 20, 2) := by decide +kernel
theorem d139_403 : decode (zB 139) 403 = .ok (.if_icmp .ge 16, 3) := by decide +kernel
theorem d139_406 : decode (zB 139) 406 = .ok (.aload_n 0, 1) := by decide +kernel
theorem d139_407 : decode (zB 139) 407 = .ok (.getfield 25, 3) := by decide +kernel
theorem d139_410 : decode (zB 139) 410 = .ok (.iload_n 1, 1) := by decide +kernel
theorem d139_411 : decode (zB 139) 411 = .ok (.iload_n 1, 1) := by decide +kernel
theorem d139_412 : decode (zB 139) 412 = .ok (.iastore, 1) := by decide +kernel
theorem d139_413 : decode (zB 139) 413 = .ok (.iinc 1 1, 3) := by decide +kernel
theorem d139_416 : decode (zB 139) 416 = .ok (.goto (-16), 3) := by decide +kernel
theorem d139_419 : decode (zB 139) 419 = .ok (.return_, 1) := by decide +kernel
theorem d140_0 : decode (zB 140) 0 = .ok (.iload_n 0, 1) := by decide +kernel
theorem d140_1 : decode (zB 140) 1 = .ok (.iload_n 1, 1) := by decide +kernel
theorem d140_2 : decode (zB 140) 2 = .ok (.if_icmp .lt 12, 3) := by decide +kernel
theorem d140_5 : decode (zB 140) 5 = .ok (.iload_n 0, 1) := by decide +kernel
theorem d140_6 : decode (zB 140) 6 = .ok (.iload_n 2, 1) := by decide +kernel
theorem d140_7 : decode (zB 140) 7 = .ok (.if_icmp .gt 7, 3) := by decide +kernel
theorem d140_10 : decode (zB 140) 10 = .ok (.iconst 1, 1) := by decide +kernel
theorem d140_11 : decode (zB 140) 11 = .ok (.goto 4, 3) := by decide +kernel
theorem d140_14 : decode (zB 140) 14 = .ok (.iconst 0, 1) := by decide +kernel
theorem d140_15 : decode (zB 140) 15 = .ok (.ireturn, 1) := by decide +kernel
theorem d141_0 : decode (zB 141) 0 = .ok (.iload_n 0, 1) := by decide +kernel
theorem d141_1 : decode (zB 141) 1 = .ok (.iload_n 1, 1) := by decide +kernel
theorem d141_2 : decode (zB 141) 2 = .ok (.if_icmp .ge 7, 3) := by decide +kernel
theorem d141_5 : decode (zB 141) 5 = .ok (.iload_n 0, 1) := by decide +kernel
theorem d141_6 : decode (zB 141) 6 = .ok (.goto 4, 3) := by decide +kernel
theorem d141_9 : decode (zB 141) 9 = .ok (.iload_n 1, 1) := by decide +kernel
theorem d141_10 : decode (zB 141) 10 = .ok (.ireturn, 1) := by decide +kernel
theorem d142_0 : decode (zB 142) 0 = .ok (.iload_n 0, 1) := by decide +kernel
theorem d142_1 : decode (zB 142) 1 = .ok (.iload_n 1, 1) := by decide +kernel
theorem d142_2 : decode (zB 142) 2 = .ok (.if_icmp .le 7, 3) := by decide +kernel
theorem d142_5 : decode (zB 142) 5 = .ok (.iload_n 0, 1) := by decide +kernel
theorem d142_6 : decode (zB 142) 6 = .ok (.goto 4, 3) := by decide +kernel
theorem d142_9 : decode (zB 142) 9 = .ok (.iload_n 1, 1) := by decide +kernel
theorem d142_10 : decode (zB 142) 10 = .ok (.ireturn, 1) := by decide +kernel
theorem d143_0 : decode (zB 143) 0 = .ok (.iload_n 0, 1) := by decide +kernel
theorem d143_1 : decode (zB 143) 1 = .ok (.iload_n 1, 1) := by decide +kernel
theorem d143_2 : decode (zB 143) 2 = .ok (.ishr, 1) := by decide +kernel
theorem d143_3 : decode (zB 143) 3 = .ok (.iconst 1, 1) := by decide +kernel
theorem d143_4 : decode (zB 143) 4 = .ok (.iand, 1) := by decide +kernel
theorem d143_5 : decode (zB 143) 5 = .ok (.iconst 1, 1) := by decide +kernel
theorem d143_6 : decode (zB 143) 6 = .ok (.if_icmp .ne 7, 3) := by decide +kernel
theorem d143_9 : decode (zB 143) 9 = .ok (.iconst 1, 1) := by decide +kernel
theorem d143_10 : decode (zB 143) 10 = .ok (.goto 4, 3) := by decide +kernel
theorem d143_13 : decode (zB 143) 13 = .ok (.iconst 0, 1) := by decide +kernel
theorem d143_14 : decode (zB 143) 14 = .ok (.ireturn, 1) := by decide +kernel
theorem d144_0 : decode (zB 144) 0 = .ok (.iload_n 1, 1) := by decide +kernel
theorem d144_1 : decode (zB 144) 1 = .ok (.ifCond .lt 15, 3) := by decide +kernel
theorem d144_4 : decode (zB 144) 4 = .ok (.iload_n 1, 1) := by decide +kernel
theorem d144_5 : decode (zB 144) 5 = .ok (.aload_n 0, 1) := by decide +kernel
theorem d144_6 : decode (zB 144) 6 = .ok (.getfield 159, 3) := by decide +kernel
theorem d144_9 : decode (zB 144) 9 = .ok (.if_icmp .ge 7, 3) := by decide +kernel
theorem d144_12 : decode (zB 144) 12 = .ok (.iconst 1, 1) := by decide +kernel
theorem d144_13 : decode (zB 144) 13 = .ok (.goto 4, 3) := by decide +kernel
theorem d144_16 : decode (zB 144) 16 = .ok (.iconst 0, 1) := by decide +kernel
theorem d144_17 : decode (zB 144) 17 = .ok (.ireturn, 1) := by decide +kernel
theorem d145_0 : decode (zB 145) 0 = .ok (.iload_n 0, 1) := by decide +kernel
theorem d145_1 : decode (zB 145) 1 = .ok (.ifCond .lt 13, 3) := by decide +kernel
theorem d145_4 : decode (zB 145) 4 = .ok (.iload_n 0, 1) := by decide +kernel
theorem d145_5 : decode (zB 145) 5 = .ok (.bipush 20, 2) := by decide +kernel
theorem d145_7 : decode (zB 145) 7 = .ok (.if_icmp .ge 7, 3) := by decide +kernel
theorem d145_10 : decode (zB 145) 10 = .ok (.iconst 1, 1) := by decide +kernel
theorem d145_11 : decode (zB 145) 11 = .ok (.goto 4, 3) := by decide +kernel
theorem d145_14 : decode (zB 145) 14 = .ok (.iconst 0, 1) := by decide +kernel
theorem d145_15 : decode (zB 145) 15 = .ok (.ireturn, 1) := by decide +kernel
theorem d146_0 : decode (zB 146) 0 = .ok (.aload_n 0, 1) := by decide +kernel
theorem d146_1 : decode (zB 146) 1 = .ok (.getfield 25, 3) := by decide +kernel
theorem d146_4 : decode (zB 146) 4 = .ok (.aload_n 0, 1) := by decide +kernel
theorem d146_5 : decode (zB 146) 5 = .ok (.getfield 7, 3) := by decide +kernel
theorem d146_8 : decode (zB 146) 8 = .ok (.iload_n 1, 1) := by decide +kernel
theorem d146_9 : decode (zB 146) 9 = .ok (.iaload, 1) := by decide +kernel
theorem d146_10 : decode (zB 146) 10 = .ok (.iaload, 1) := by decide +kernel
theorem d146_11 : decode (zB 146) 11 = .ok (.ireturn, 1) := by decide +kernel
theorem d147_0 : decode (zB 147) 0 = .ok (.aload_n 0, 1) := by decide +kernel
theorem d147_1 : decode (zB 147) 1 = .ok (.getfield 22, 3) := by decide +kernel
theorem d147_4 : decode (zB 147) 4 = .ok (.aload_n 0, 1) := by decide +kernel
theorem d147_5 : decode (zB 147) 5 = .ok (.getfield 162, 3) := by decide +kernel
theorem d147_8 : decode (zB 147) 8 = .ok (.iload_n 1, 1) := by decide +kernel
theorem d147_9 : decode (zB 147) 9 = .ok (.iastore, 1) := by decide +kernel
theorem d147_10 : decode (zB 147) 10 = .ok (.aload_n 0, 1) := by decide +kernel
theorem d147_11 : decode (zB 147) 11 = .ok (.aload_n 0, 1) := by decide +kernel
theorem d147_12 : decode (zB 147) 12 = .ok (.getfield 162, 3) := by decide +kernel
theorem d147_15 : decode (zB 147) 15 = .ok (.iconst 1, 1) := by decide +kernel
theorem d147_16 : decode (zB 147) 16 = .ok (.iadd, 1) := by decide +kernel
theorem d147_17 : decode (zB 147) 17 = .ok (.putfield 162, 3) := by decide +kernel
theorem d147_20 : decode (zB 147) 20 = .ok (.return_, 1) := by decide +kernel
theorem d148_0 : decode (zB 148) 0 = .ok (.iload_n 1, 1) := by decide +kernel
theorem d148_1 : decode (zB 148) 1 = .ok (.invokestatic 165, 3) := by decide +kernel
theorem d148_4 : decode (zB 148) 4 = .ok (.ifCond .eq 44, 3) := by decide +kernel
theorem d148_7 : decode (zB 148) 7 = .ok (.iload_n 2, 1) := by decide +kernel
theorem d148_8 : decode (zB 148) 8 = .ok (.iconst 0, 1) := by decide +kernel
theorem d148_9 : decode (zB 148) 9 = .ok (.bipush 99, 2) := by decide +kernel
theorem d148_11 : decode (zB 148) 11 = .ok (.invokestatic 169, 3) := by decide +kernel
theorem d148_14 : decode (zB 148) 14 = .ok (.ifCond .eq 34, 3) := by decide +kernel
theorem d148_17 : decode (zB 148) 17 = .ok (.iload_n 3, 1) := by decide +kernel
theorem d148_18 : decode (zB 148) 18 = .ok (.iconst 0, 1) := by decide +kernel
theorem d148_19 : decode (zB 148) 19 = .ok (.bipush 12, 2) := by decide +kernel
theorem d148_21 : decode (zB 148) 21 = .ok (.invokestatic 169, 3) := by decide +kernel
theorem d148_24 : decode (zB 148) 24 = .ok (.ifCond .eq 24, 3) := by decide +kernel
theorem d148_27 : decode (zB 148) 27 = .ok (.iload_n 3, 1) := by decide +kernel
theorem d148_28 : decode (zB 148) 28 = .ok (.ifCond .le 11, 3) := by decide +kernel
theorem d148_31 : decode (zB 148) 31 = .ok (.iload_n 3, 1) := by decide +kernel
theorem d148_32 : decode (zB 148) 32 = .ok (.aload_n 0, 1) := by decide +kernel
theorem d148_33 : decode (zB 148) 33 = .ok (.getfield 173, 3) := by decide +kernel
theorem d148_36 : decode (zB 148) 36 = .ok (.if_icmp .le 12, 3) := by decide +kernel
theorem d148_39 : decode (zB 148) 39 = .ok (.aload_n 0, 1) := by decide +kernel
theorem d148_40 : decode (zB 148) 40 = .ok (.getfield 159, 3) := by decide +kernel
theorem d148_43 : decode (zB 148) 43 = .ok (.bipush 32, 2) := by decide +kernel
theorem d148_45 : decode (zB 148) 45 = .ok (.if_icmp .ne 5, 3) := by decide +kernel
theorem d148_48 : decode (zB 148) 48 = .ok (.iconst (-1), 1) := by decide +kernel
theorem d148_49 : decode (zB 148) 49 = .ok (.ireturn, 1) := by decide +kernel
theorem d148_50 : decode (zB 148) 50 = .ok (.aload_n 0, 1) := by decide +kernel
theorem d148_51 : decode (zB 148) 51 = .ok (.getfield 7, 3) := by decide +kernel
theorem d148_54 : decode (zB 148) 54 = .ok (.aload_n 0, 1) := by decide +kernel
theorem d148_55 : decode (zB 148) 55 = .ok (.getfield 159, 3) := by decide +kernel
theorem d148_58 : decode (zB 148) 58 = .ok (.iload_n 1, 1) := by decide +kernel
theorem d148_59 : decode (zB 148) 59 = .ok (.iastore, 1) := by decide +kernel
theorem d148_60 : decode (zB 148) 60 = .ok (.aload_n 0, 1) := by decide +kernel
theorem d148_61 : decode (zB 148) 61 = .ok (.getfield 13, 3) := by decide +kernel
theorem d148_64 : decode (zB 148) 64 = .ok (.aload_n 0, 1) := by decide +kernel
theorem d148_65 : decode (zB 148) 65 = .ok (.getfield 159, 3) := by decide +kernel
theorem d148_68 : decode (zB 148) 68 = .ok (.iload_n 2, 1) := by decide +kernel
theorem d148_69 : decode (zB 148) 69 = .ok (.iastore, 1) := by decide +kernel
theorem d148_70 : decode (zB 148) 70 = .ok (.aload_n 0, 1) := by decide +kernel
theorem d148_71 : decode (zB 148) 71 = .ok (.getfield 16, 3) := by decide +kernel
theorem d148_74 : decode (zB 148) 74 = .ok (.aload_n 0, 1) := by decide +kernel
theorem d148_75 : decode (zB 148) 75 = .ok (.getfield 159, 3) := by decide +kernel
theorem d148_78 : decode (zB 148) 78 = .ok (.iload_n 3, 1) := by decide +kernel
theorem d148_79 : decode (zB 148) 79 = .ok (.iastore, 1) := by decide +kernel
theorem d148_80 : decode (zB 148) 80 = .ok (.aload_n 0, 1) := by decide +kernel
theorem d148_81 : decode (zB 148) 81 = .ok (.getfield 19, 3) := by decide +kernel
theorem d148_84 : decode (zB 148) 84 = .ok (.aload_n 0, 1) := by decide +kernel
theorem d148_85 : decode (zB 148) 85 = .ok (.getfield 159, 3) := by decide +kernel
theorem d148_88 : decode (zB 148) 88 = .ok (.bipush 9, 2) := by decide +kernel
theorem d148_90 : decode (zB 148) 90 = .ok (.iastore, 1) := by decide +kernel
theorem d148_91 : decode (zB 148) 91 = .ok (.iload_n 3, 1) := by decide +kernel
theorem d148_92 : decode (zB 148) 92 = .ok (.ifCond .ne 11, 3) := by decide +kernel
theorem d148_95 : decode (zB 148) 95 = .ok (.aload_n 0, 1) := by decide +kernel
theorem d148_96 : decode (zB 148) 96 = .ok (.aload_n 0, 1) := by decide +kernel
theorem d148_97 : decode (zB 148) 97 = .ok (.getfield 159, 3) := by decide +kernel
theorem d148_100 : decode (zB 148) 100 = .ok (.invokevirtual 176, 3) := by decide +kernel
theorem d148_103 : decode (zB 148) 103 = .ok (.aload_n 0, 1) := by decide +kernel
theorem d148_104 : decode (zB 148) 104 = .ok (.aload_n 0, 1) := by decide +kernel
theorem d148_105 : decode (zB 148) 105 = .ok (.getfield 159, 3) := by decide +kernel
theorem d148_108 : decode (zB 148) 108 = .ok (.iconst 1, 1) := by decide +kernel
theorem d148_109 : decode (zB 148) 109 = .ok (.iadd, 1) := by decide +kernel
theorem d148_110 : decode (zB 148) 110 = .ok (.putfield 159, 3) := by decide +kernel
theorem d148_113 : decode (zB 148) 113 = .ok (.aload_n 0, 1) := by decide +kernel
theorem d148_114 : decode (zB 148) 114 = .ok (.getfield 159, 3) := by decide +kernel
theorem d148_117 : decode (zB 148) 117 = .ok (.iconst 1, 1) := by decide +kernel
theorem d148_118 : decode (zB 148) 118 = .ok (.isub, 1) := by decide +kernel
theorem d148_119 : decode (zB 148) 119 = .ok (.ireturn, 1) := by decide +kernel
theorem d149_0 : decode (zB 149) 0 = .ok (.iload_n 1, 1) := by decide +kernel
theorem d149_1 : decode (zB 149) 1 = .ok (.invokestatic 165, 3) := by decide +kernel
theorem d149_4 : decode (zB 149) 4 = .ok (.ifCond .eq 10, 3) := by decide +kernel
theorem d149_7 : decode (zB 149) 7 = .ok (.iload_n 2, 1) := by decide +kernel
theorem d149_8 : decode (zB 149) 8 = .ok (.invokestatic 165, 3) := by decide +kernel
theorem d149_11 : decode (zB 149) 11 = .ok (.ifCond .ne 5, 3) := by decide +kernel
theorem d149_14 : decode (zB 149) 14 = .ok (.iconst 0, 1) := by decide +kernel
theorem d149_15 : decode (zB 149) 15 = .ok (.ireturn, 1) := by decide +kernel
theorem d149_16 : decode (zB 149) 16 = .ok (.aload_n 0, 1) := by decide +kernel
theorem d149_17 : decode (zB 149) 17 = .ok (.getfield 25, 3) := by decide +kernel
theorem d149_20 : decode (zB 149) 20 = .ok (.iload_n 1, 1) := by decide +kernel
theorem d149_21 : decode (zB 149) 21 = .ok (.iload_n 2, 1) := by decide +kernel
theorem d149_22 : decode (zB 149) 22 = .ok (.iastore, 1) := by decide +kernel
theorem d149_23 : decode (zB 149) 23 = .ok (.iconst 1, 1) := by decide +kernel
theorem d149_24 : decode (zB 149) 24 = .ok (.ireturn, 1) := by decide +kernel
theorem d150_0 : decode (zB 150) 0 = .ok (.iload_n 1, 1) := by decide +kernel
theorem d150_1 : decode (zB 150) 1 = .ok (.iconst 1, 1) := by decide +kernel
theorem d150_2 : decode (zB 150) 2 = .ok (.bipush 9, 2) := by decide +kernel
theorem d150_4 : decode (zB 150) 4 = .ok (.invokestatic 169, 3) := by decide +kernel
theorem d150_7 : decode (zB 150) 7 = .ok (.ifCond .eq 14, 3) := by decide +kernel
theorem d150_10 : decode (zB 150) 10 = .ok (.iload_n 2, 1) := by decide +kernel
theorem d150_11 : decode (zB 150) 11 = .ok (.ifCond .lt 10, 3) := by decide +kernel
theorem d150_14 : decode (zB 150) 14 = .ok (.iload_n 2, 1) := by decide +kernel
theorem d150_15 : decode (zB 150) 15 = .ok (.iconst 1, 1) := by decide +kernel
theorem d150_16 : decode (zB 150) 16 = .ok (.iload_n 1, 1) := by decide +kernel
theorem d150_17 : decode (zB 150) 17 = .ok (.ishl, 1) := by decide +kernel
theorem d150_18 : decode (zB 150) 18 = .ok (.if_icmp .lt 5, 3) := by decide +kernel
theorem d150_21 : decode (zB 150) 21 = .ok (.iconst 0, 1) := by decide +kernel
theorem d150_22 : decode (zB 150) 22 = .ok (.ireturn, 1) := by decide +kernel
theorem d150_23 : decode (zB 150) 23 = .ok (.aload_n 0, 1) := by decide +kernel
theorem d150_24 : decode (zB 150) 24 = .ok (.iload_n 1, 1) := by decide +kernel
theorem d150_25 : decode (zB 150) 25 = .ok (.putfield 156, 3) := by decide +kernel
theorem d150_28 : decode (zB 150) 28 = .ok (.aload_n 0, 1) := by decide +kernel
theorem d150_29 : decode (zB 150) 29 = .ok (.iload_n 2, 1) := by decide +kernel
theorem d150_30 : decode (zB 150) 30 = .ok (.putfield 180, 3) := by decide +kernel
theorem d150_33 : decode (zB 150) 33 = .ok (.iconst 1, 1) := by decide +kernel
theorem d150_34 : decode (zB 150) 34 = .ok (.ireturn, 1) := by decide +kernel
theorem d151_0 : decode (zB 151) 0 = .ok (.iconst 0, 1) := by decide +kernel
theorem d151_1 : decode (zB 151) 1 = .ok (.istore_n 2, 1) := by decide +kernel
theorem d151_2 : decode (zB 151) 2 = .ok (.iload_n 2, 1) := by decide +kernel
theorem d151_3 : decode (zB 151) 3 = .ok (.aload_n 0, 1) := by decide +kernel
theorem d151_4 : decode (zB 151) 4 = .ok (.getfield 162, 3) := by decide +kernel
theorem d151_7 : decode (zB 151) 7 = .ok (.if_icmp .ge 21, 3) := by decide +kernel
theorem d151_10 : decode (zB 151) 10 = .ok (.aload_n 0, 1) := by decide +kernel
theorem d151_11 : decode (zB 151) 11 = .ok (.getfield 22, 3) := by decide +kernel
theorem d151_14 : decode (zB 151) 14 = .ok (.iload_n 2, 1) := by decide +kernel
theorem d151_15 : decode (zB 151) 15 = .ok (.iaload, 1) := by decide +kernel
theorem d151_16 : decode (zB 151) 16 = .ok (.iload_n 1, 1) := by decide +kernel
theorem d151_17 : decode (zB 151) 17 = .ok (.if_icmp .ne 5, 3) := by decide +kernel
theorem d151_20 : decode (zB 151) 20 = .ok (.iload_n 2, 1) := by decide +kernel
theorem d151_21 : decode (zB 151) 21 = .ok (.ireturn, 1) := by decide +kernel
theorem d151_22 : decode (zB 151) 22 = .ok (.iinc 2 1, 3) := by decide +kernel
theorem d151_25 : decode (zB 151) 25 = .ok (.goto (-23), 3) := by decide +kernel
theorem d151_28 : decode (zB 151) 28 = .ok (.iconst (-1), 1) := by decide +kernel
theorem d151_29 : decode (zB 151) 29 = .ok (.ireturn, 1) := by decide +kernel
theorem d152_0 : decode (zB 152) 0 = .ok (.iconst 3, 1) := by decide +kernel
theorem d152_1 : decode (zB 152) 1 = .ok (.istore_n 2, 1) := by decide +kernel
theorem d152_2 : decode (zB 152) 2 = .ok (.iload_n 2, 1) := by decide +kernel
theorem d152_3 : decode (zB 152) 3 = .ok (.ifCond .lt 35, 3) := by decide +kernel
theorem d152_6 : decode (zB 152) 6 = .ok (.aload_n 0, 1) := by decide +kernel
theorem d152_7 : decode (zB 152) 7 = .ok (.getfield 28, 3) := by decide +kernel
theorem d152_10 : decode (zB 152) 10 = .ok (.aload_n 0, 1) := by decide +kernel
theorem d152_11 : decode (zB 152) 11 = .ok (.getfield 183, 3) := by decide +kernel
theorem d152_14 : decode (zB 152) 14 = .ok (.iload_n 1, 1) := by decide +kernel
theorem d152_15 : decode (zB 152) 15 = .ok (.bipush 8, 2) := by decide +kernel
theorem d152_17 : decode (zB 152) 17 = .ok (.iload_n 2, 1) := by decide +kernel
theorem d152_18 : decode (zB 152) 18 = .ok (.imul, 1) := by decide +kernel
theorem d152_19 : decode (zB 152) 19 = .ok (.ishr, 1) := by decide +kernel
theorem d152_20 : decode (zB 152) 20 = .ok (.i2b, 1) := by decide +kernel
theorem d152_21 : decode (zB 152) 21 = .ok (.bastore, 1) := by decide +kernel
theorem d152_22 : decode (zB 152) 22 = .ok (.aload_n 0, 1) := by decide +kernel
theorem d152_23 : decode (zB 152) 23 = .ok (.aload_n 0, 1) := by decide +kernel
theorem d152_24 : decode (zB 152) 24 = .ok (.getfield 183, 3) := by decide +kernel
theorem d152_27 : decode (zB 152) 27 = .ok (.iconst 1, 1) := by decide +kernel
theorem d152_28 : decode (zB 152) 28 = .ok (.iadd, 1) := by decide +kernel
theorem d152_29 : decode (zB 152) 29 = .ok (.putfield 183, 3) := by decide +kernel
theorem d152_32 : decode (zB 152) 32 = .ok (.iinc 2 (-1), 3) := by decide +kernel
theorem d152_35 : decode (zB 152) 35 = .ok (.goto (-33), 3) := by decide +kernel
theorem d152_38 : decode (zB 152) 38 = .ok (.return_, 1) := by decide +kernel
theorem d153_0 : decode (zB 153) 0 = .ok (.aload_n 0, 1) := by decide +kernel
theorem d153_1 : decode (zB 153) 1 = .ok (.getfield 183, 3) := by decide +kernel
theorem d153_4 : decode (zB 153) 4 = .ok (.bipush 20, 2) := by decide +kernel
theorem d153_6 : decode (zB 153) 6 = .ok (.iadd, 1) := by decide +kernel
theorem d153_7 : decode (zB 153) 7 = .ok (.sipush 220, 3) := by decide +kernel
theorem d153_10 : decode (zB 153) 10 = .ok (.if_icmp .le 5, 3) := by decide +kernel
theorem d153_13 : decode (zB 153) 13 = .ok (.iconst (-1), 1) := by decide +kernel
theorem d153_14 : decode (zB 153) 14 = .ok (.ireturn, 1) := by decide +kernel
theorem d153_15 : decode (zB 153) 15 = .ok (.aload_n 0, 1) := by decide +kernel
theorem d153_16 : decode (zB 153) 16 = .ok (.iload_n 1, 1) := by decide +kernel
theorem d153_17 : decode (zB 153) 17 = .ok (.invokevirtual 186, 3) := by decide +kernel
theorem d153_20 : decode (zB 153) 20 = .ok (.aload_n 0, 1) := by decide +kernel
theorem d153_21 : decode (zB 153) 21 = .ok (.iload_n 2, 1) := by decide +kernel
theorem d153_22 : decode (zB 153) 22 = .ok (.invokevirtual 186, 3) := by decide +kernel
theorem d153_25 : decode (zB 153) 25 = .ok (.aload_n 0, 1) := by decide +kernel
theorem d153_26 : decode (zB 153) 26 = .ok (.iload_n 3, 1) := by decide +kernel
theorem d153_27 : decode (zB 153) 27 = .ok (.invokevirtual 186, 3) := by decide +kernel
theorem d153_30 : decode (zB 153) 30 = .ok (.aload_n 0, 1) := by decide +kernel
theorem d153_31 : decode (zB 153) 31 = .ok (.iload 4, 2) := by decide +kernel
theorem d153_33 : decode (zB 153) 33 = .ok (.invokevirtual 186, 3) := by decide +kernel
theorem d153_36 : decode (zB 153) 36 = .ok (.aload_n 0, 1) := by decide +kernel
theorem d153_37 : decode (zB 153) 37 = .ok (.iload 5, 2) := by decide +kernel
theorem d153_39 : decode (zB 153) 39 = .ok (.invokevirtual 186, 3) := by decide +kernel
theorem d153_42 : decode (zB 153) 42 = .ok (.aload_n 0, 1) := by decide +kernel
theorem d153_43 : decode (zB 153) 43 = .ok (.getfield 183, 3) := by decide +kernel
theorem d153_46 : decode (zB 153) 46 = .ok (.ireturn, 1) := by decide +kernel
theorem d154_0 : decode (zB 154) 0 = .ok (.aload_n 0, 1) := by decide +kernel
theorem d154_1 : decode (zB 154) 1 = .ok (.getfield 189, 3) := by decide +kernel
theorem d154_4 : decode (zB 154) 4 = .ok (.aload_n 0, 1) := by decide +kernel
theorem d154_5 : decode (zB 154) 5 = .ok (.getfield 192, 3) := by decide +kernel
theorem d154_8 : decode (zB 154) 8 = .ok (.if_icmp .ge 19, 3) := by decide +kernel
theorem d154_11 : decode (zB 154) 11 = .ok (.aload_n 0, 1) := by decide +kernel
theorem d154_12 : decode (zB 154) 12 = .ok (.getfield 28, 3) := by decide +kernel
theorem d154_15 : decode (zB 154) 15 = .ok (.aload_n 0, 1) := by decide +kernel
theorem d154_16 : decode (zB 154) 16 = .ok (.getfield 189, 3) := by decide +kernel
theorem d154_19 : decode (zB 154) 19 = .ok (.baload, 1) := by decide +kernel
theorem d154_20 : decode (zB 154) 20 = .ok (.sipush 255, 3) := by decide +kernel
theorem d154_23 : decode (zB 154) 23 = .ok (.iand, 1) := by decide +kernel
theorem d154_24 : decode (zB 154) 24 = .ok (.goto 4, 3) := by decide +kernel
theorem d154_27 : decode (zB 154) 27 = .ok (.iconst (-1), 1) := by decide +kernel
theorem d154_28 : decode (zB 154) 28 = .ok (.ireturn, 1) := by decide +kernel
theorem d155_0 : decode (zB 155) 0 = .ok (.aload_n 0, 1) := by decide +kernel
theorem d155_1 : decode (zB 155) 1 = .ok (.invokevirtual 195, 3) := by decide +kernel
theorem d155_4 : decode (zB 155) 4 = .ok (.bipush 48, 2) := by decide +kernel
theorem d155_6 : decode (zB 155) 6 = .ok (.if_icmp .lt 16, 3) := by decide +kernel
theorem d155_9 : decode (zB 155) 9 = .ok (.aload_n 0, 1) := by decide +kernel
theorem d155_10 : decode (zB 155) 10 = .ok (.invokevirtual 195, 3) := by decide +kernel
theorem d155_13 : decode (zB 155) 13 = .ok (.bipush 57, 2) := by decide +kernel
theorem d155_15 : decode (zB 155) 15 = .ok (.if_icmp .gt 7, 3) := by decide +kernel
theorem d155_18 : decode (zB 155) 18 = .ok (.iconst 1, 1) := by decide +kernel
theorem d155_19 : decode (zB 155) 19 = .ok (.goto 4, 3) := by decide +kernel
theorem d155_22 : decode (zB 155) 22 = .ok (.iconst 0, 1) := by decide +kernel
theorem d155_23 : decode (zB 155) 23 = .ok (.ireturn, 1) := by decide +kernel
theorem d156_0 : decode (zB 156) 0 = .ok (.aload_n 0, 1) := by decide +kernel
theorem d156_1 : decode (zB 156) 1 = .ok (.sipush (-1000), 3) := by decide +kernel
theorem d156_4 : decode (zB 156) 4 = .ok (.iload_n 1, 1) := by decide +kernel
theorem d156_5 : decode (zB 156) 5 = .ok (.imul, 1) := by decide +kernel
theorem d156_6 : decode (zB 156) 6 = .ok (.iload_n 2, 1) := by decide +kernel
theorem d156_7 : decode (zB 156) 7 = .ok (.isub, 1) := by decide +kernel
theorem d156_8 : decode (zB 156) 8 = .ok (.putfield 199, 3) := by decide +kernel
theorem d156_11 : decode (zB 156) 11 = .ok (.iconst 0, 1) := by decide +kernel
theorem d156_12 : decode (zB 156) 12 = .ok (.ireturn, 1) := by decide +kernel
theorem d157_0 : decode (zB 157) 0 = .ok (.aload_n 0, 1) := by decide +kernel
theorem d157_1 : decode (zB 157) 1 = .ok (.invokevirtual 195, 3) := by decide +kernel
theorem d157_4 : decode (zB 157) 4 = .ok (.iload_n 1, 1) := by decide +kernel
theorem d157_5 : decode (zB 157) 5 = .ok (.if_icmp .eq 13, 3) := by decide +kernel
theorem d157_8 : decode (zB 157) 8 = .ok (.aload_n 0, 1) := by decide +kernel
theorem d157_9 : decode (zB 157) 9 = .ok (.iconst 1, 1) := by decide +kernel
theorem d157_10 : decode (zB 157) 10 = .ok (.aload_n 0, 1) := by decide +kernel
theorem d157_11 : decode (zB 157) 11 = .ok (.getfield 189, 3) := by decide +kernel
theorem d157_14 : decode (zB 157) 14 = .ok (.invokevirtual 202, 3) := by decide +kernel
theorem d157_17 : decode (zB 157) 17 = .ok (.ireturn, 1) := by decide +kernel
theorem d157_18 : decode (zB 157) 18 = .ok (.aload_n 0, 1) := by decide +kernel
theorem d157_19 : decode (zB 157) 19 = .ok (.aload_n 0, 1) := by decide +kernel
theorem d157_20 : decode (zB 157) 20 = .ok (.getfield 189, 3) := by decide +kernel
theorem d157_23 : decode (zB 157) 23 = .ok (.iconst 1, 1) := by decide +kernel
theorem d157_24 : decode (zB 157) 24 = .ok (.iadd, 1) := by decide +kernel
theorem d157_25 : decode (zB 157) 25 = .ok (.putfield 189, 3) := by decide +kernel
theorem d157_28 : decode (zB 157) 28 = .ok (.iconst 1, 1) := by decide +kernel
theorem d157_29 : decode (zB 157) 29 = .ok (.ireturn, 1) := by decide +kernel
theorem d158_0 : decode (zB 158) 0 = .ok (.aload_n 0, 1) := by decide +kernel
theorem d158_1 : decode (zB 158) 1 = .ok (.getfield 189, 3) := by decide +kernel
theorem d158_4 : decode (zB 158) 4 = .ok (.istore_n 1, 1) := by decide +kernel
theorem d158_5 : decode (zB 158) 5 = .ok (.aload_n 0, 1) := by decide +kernel
theorem d158_6 : decode (zB 158) 6 = .ok (.iconst 0, 1) := by decide +kernel
theorem d158_7 : decode (zB 158) 7 = .ok (.putfield 206, 3) := by decide +kernel
theorem d158_10 : decode (zB 158) 10 = .ok (.aload_n 0, 1) := by decide +kernel
theorem d158_11 : decode (zB 158) 11 = .ok (.invokevirtual 209, 3) := by decide +kernel
theorem d158_14 : decode (zB 158) 14 = .ok (.ifCond .eq 55, 3) := by decide +kernel
theorem d158_17 : decode (zB 158) 17 = .ok (.aload_n 0, 1) := by decide +kernel
theorem d158_18 : decode (zB 158) 18 = .ok (.getfield 189, 3) := by decide +kernel
theorem d158_21 : decode (zB 158) 21 = .ok (.iload_n 1, 1) := by decide +kernel
theorem d158_22 : decode (zB 158) 22 = .ok (.iconst 5, 1) := by decide +kernel
theorem d158_23 : decode (zB 158) 23 = .ok (.iadd, 1) := by decide +kernel
theorem d158_24 : decode (zB 158) 24 = .ok (.if_icmp .ne 13, 3) := by decide +kernel
theorem d158_27 : decode (zB 158) 27 = .ok (.aload_n 0, 1) := by decide +kernel
theorem d158_28 : decode (zB 158) 28 = .ok (.iconst 2, 1) := by decide +kernel
theorem d158_29 : decode (zB 158) 29 = .ok (.aload_n 0, 1) := by decide +kernel
theorem d158_30 : decode (zB 158) 30 = .ok (.getfield 189, 3) := by decide +kernel
theorem d158_33 : decode (zB 158) 33 = .ok (.invokevirtual 202, 3) := by decide +kernel
theorem d158_36 : decode (zB 158) 36 = .ok (.ireturn, 1) := by decide +kernel
theorem d158_37 : decode (zB 158) 37 = .ok (.aload_n 0, 1) := by decide +kernel
theorem d158_38 : decode (zB 158) 38 = .ok (.bipush 10, 2) := by decide +kernel
theorem d158_40 : decode (zB 158) 40 = .ok (.aload_n 0, 1) := by decide +kernel
theorem d158_41 : decode (zB 158) 41 = .ok (.getfield 206, 3) := by decide +kernel
theorem d158_44 : decode (zB 158) 44 = .ok (.imul, 1) := by decide +kernel
theorem d158_45 : decode (zB 158) 45 = .ok (.aload_n 0, 1) := by decide +kernel
theorem d158_46 : decode (zB 158) 46 = .ok (.invokevirtual 195, 3) := by decide +kernel
theorem d158_49 : decode (zB 158) 49 = .ok (.iadd, 1) := by decide +kernel
theorem d158_50 : decode (zB 158) 50 = .ok (.bipush 48, 2) := by decide +kernel
theorem d158_52 : decode (zB 158) 52 = .ok (.isub, 1) := by decide +kernel
theorem d158_53 : decode (zB 158) 53 = .ok (.putfield 206, 3) := by decide +kernel
theorem d158_56 : decode (zB 158) 56 = .ok (.aload_n 0, 1) := by decide +kernel
theorem d158_57 : decode (zB 158) 57 = .ok (.aload_n 0, 1) := by decide +kernel
theorem d158_58 : decode (zB 158) 58 = .ok (.getfield 189, 3) := by decide +kernel
theorem d158_61 : decode (zB 158) 61 = .ok (.iconst 1, 1) := by decide +kernel
theorem d158_62 : decode (zB 158) 62 = .ok (.iadd, 1) := by decide +kernel
theorem d158_63 : decode (zB 158) 63 = .ok (.putfield 189, 3) := by decide +kernel
theorem d158_66 : decode (zB 158) 66 = .ok (.goto (-56), 3) := by decide +kernel
theorem d158_69 : decode (zB 158) 69 = .ok (.iconst 1, 1) := by decide +kernel
theorem d158_70 : decode (zB 158) 70 = .ok (.ireturn, 1) := by decide +kernel
theorem d159_0 : decode (zB 159) 0 = .ok (.aload_n 0, 1) := by decide +kernel
theorem d159_1 : decode (zB 159) 1 = .ok (.getfield 32, 3) := by decide +kernel
theorem d159_4 : decode (zB 159) 4 = .ok (.aload_n 0, 1) := by decide +kernel
theorem d159_5 : decode (zB 159) 5 = .ok (.getfield 213, 3) := by decide +kernel
theorem d159_8 : decode (zB 159) 8 = .ok (.ldc 216, 2) := by decide +kernel
theorem d159_10 : decode (zB 159) 10 = .ok (.iload_n 1, 1) := by decide +kernel
theorem d159_11 : decode (zB 159) 11 = .ok (.imul, 1) := by decide +kernel
theorem d159_12 : decode (zB 159) 12 = .ok (.iload_n 2, 1) := by decide +kernel
theorem d159_13 : decode (zB 159) 13 = .ok (.iadd, 1) := by decide +kernel
theorem d159_14 : decode (zB 159) 14 = .ok (.iastore, 1) := by decide +kernel
theorem d159_15 : decode (zB 159) 15 = .ok (.aload_n 0, 1) := by decide +kernel
theorem d159_16 : decode (zB 159) 16 = .ok (.aload_n 0, 1) := by decide +kernel
theorem d159_17 : decode (zB 159) 17 = .ok (.getfield 213, 3) := by decide +kernel
theorem d159_20 : decode (zB 159) 20 = .ok (.iconst 1, 1) := by decide +kernel
theorem d159_21 : decode (zB 159) 21 = .ok (.iadd, 1) := by decide +kernel
theorem d159_22 : decode (zB 159) 22 = .ok (.putfield 213, 3) := by decide +kernel
theorem d159_25 : decode (zB 159) 25 = .ok (.return_, 1) := by decide +kernel
theorem d160_0 : decode (zB 160) 0 = .ok (.aload_n 0, 1) := by decide +kernel
theorem d160_1 : decode (zB 160) 1 = .ok (.getfield 217, 3) := by decide +kernel
theorem d160_4 : decode (zB 160) 4 = .ok (.bipush 6, 2) := by decide +kernel
theorem d160_6 : decode (zB 160) 6 = .ok (.if_icmp .ne 13, 3) := by decide +kernel
theorem d160_9 : decode (zB 160) 9 = .ok (.aload_n 0, 1) := by decide +kernel
theorem d160_10 : decode (zB 160) 10 = .ok (.iconst 5, 1) := by decide +kernel
theorem d160_11 : decode (zB 160) 11 = .ok (.aload_n 0, 1) := by decide +kernel
theorem d160_12 : decode (zB 160) 12 = .ok (.getfield 189, 3) := by decide +kernel
theorem d160_15 : decode (zB 160) 15 = .ok (.invokevirtual 202, 3) := by decide +kernel
theorem d160_18 : decode (zB 160) 18 = .ok (.ireturn, 1) := by decide +kernel
theorem d160_19 : decode (zB 160) 19 = .ok (.aload_n 0, 1) := by decide +kernel
theorem d160_20 : decode (zB 160) 20 = .ok (.aload_n 0, 1) := by decide +kernel
theorem d160_21 : decode (zB 160) 21 = .ok (.getfield 217, 3) := by decide +kernel
theorem d160_24 : decode (zB 160) 24 = .ok (.iconst 1, 1) := by decide +kernel
theorem d160_25 : decode (zB 160) 25 = .ok (.iadd, 1) := by decide +kernel
theorem d160_26 : decode (zB 160) 26 = .ok (.putfield 217, 3) := by decide +kernel
theorem d160_29 : decode (zB 160) 29 = .ok (.aload_n 0, 1) := by decide +kernel
theorem d160_30 : decode (zB 160) 30 = .ok (.getfield 35, 3) := by decide +kernel
theorem d160_33 : decode (zB 160) 33 = .ok (.aload_n 0, 1) := by decide +kernel
theorem d160_34 : decode (zB 160) 34 = .ok (.getfield 220, 3) := by decide +kernel
theorem d160_37 : decode (zB 160) 37 = .ok (.ldc 216, 2) := by decide +kernel
theorem d160_39 : decode (zB 160) 39 = .ok (.iload_n 1, 1) := by decide +kernel
theorem d160_40 : decode (zB 160) 40 = .ok (.imul, 1) := by decide +kernel
theorem d160_41 : decode (zB 160) 41 = .ok (.iastore, 1) := by decide +kernel
theorem d160_42 : decode (zB 160) 42 = .ok (.aload_n 0, 1) := by decide +kernel
theorem d160_43 : decode (zB 160) 43 = .ok (.aload_n 0, 1) := by decide +kernel
theorem d160_44 : decode (zB 160) 44 = .ok (.getfield 220, 3) := by decide +kernel
theorem d160_47 : decode (zB 160) 47 = .ok (.iconst 1, 1) := by decide +kernel
theorem d160_48 : decode (zB 160) 48 = .ok (.iadd, 1) := by decide +kernel
theorem d160_49 : decode (zB 160) 49 = .ok (.putfield 220, 3) := by decide +kernel
theorem d160_52 : decode (zB 160) 52 = .ok (.aload_n 0, 1) := by decide +kernel
theorem d160_53 : decode (zB 160) 53 = .ok (.aload_n 0, 1) := by decide +kernel
theorem d160_54 : decode (zB 160) 54 = .ok (.getfield 189, 3) := by decide +kernel
theorem d160_57 : decode (zB 160) 57 = .ok (.iconst 1, 1) := by decide +kernel
theorem d160_58 : decode (zB 160) 58 = .ok (.iadd, 1) := by decide +kernel
theorem d160_59 : decode (zB 160) 59 = .ok (.putfield 189, 3) := by decide +kernel
theorem d160_62 : decode (zB 160) 62 = .ok (.iconst 1, 1) := by decide +kernel
theorem d160_63 : decode (zB 160) 63 = .ok (.ireturn, 1) := by decide +kernel
theorem d161_0 : decode (zB 161) 0 = .ok (.aload_n 0, 1) := by decide +kernel
theorem d161_1 : decode (zB 161) 1 = .ok (.getfield 220, 3) := by decide +kernel
theorem d161_4 : decode (zB 161) 4 = .ok (.ifCond .ne 7, 3) := by decide +kernel
theorem d161_7 : decode (zB 161) 7 = .ok (.iconst (-1), 1) := by decide +kernel
theorem d161_8 : decode (zB 161) 8 = .ok (.goto 17, 3) := by decide +kernel
theorem d161_11 : decode (zB 161) 11 = .ok (.aload_n 0, 1) := by decide +kernel
theorem d161_12 : decode (zB 161) 12 = .ok (.getfield 35, 3) := by decide +kernel
theorem d161_15 : decode (zB 161) 15 = .ok (.aload_n 0, 1) := by decide +kernel
theorem d161_16 : decode (zB 161) 16 = .ok (.getfield 220, 3) := by decide +kernel
theorem d161_19 : decode (zB 161) 19 = .ok (.iconst 1, 1) := by decide +kernel
theorem d161_20 : decode (zB 161) 20 = .ok (.isub, 1) := by decide +kernel
theorem d161_21 : decode (zB 161) 21 = .ok (.iaload, 1) := by decide +kernel
theorem d161_22 : decode (zB 161) 22 = .ok (.ldc 216, 2) := by decide +kernel
theorem d161_24 : decode (zB 161) 24 = .ok (.idiv, 1) := by decide +kernel
theorem d161_25 : decode (zB 161) 25 = .ok (.ireturn, 1) := by decide +kernel
theorem d162_0 : decode (zB 162) 0 = .ok (.iload_n 0, 1) := by decide +kernel
theorem d162_1 : decode (zB 162) 1 = .ok (.tableswitch 101 103 119 #[93, 101, 89, 101, 101, 101, 101, 98, 95, 91, 101, 85, 83, 101, 101, 101, 87], 83) := by decide +kernel
theorem d162_84 : decode (zB 162) 84 = .ok (.iconst 0, 1) := by decide +kernel
theorem d162_85 : decode (zB 162) 85 = .ok (.ireturn, 1) := by decide +kernel
theorem d162_86 : decode (zB 162) 86 = .ok (.iconst 1, 1) := by decide +kernel
theorem d162_87 : decode (zB 162) 87 = .ok (.ireturn, 1) := by decide +kernel
theorem d162_88 : decode (zB 162) 88 = .ok (.iconst 2, 1) := by decide +kernel
theorem d162_89 : decode (zB 162) 89 = .ok (.ireturn, 1) := by decide +kernel
theorem d162_90 : decode (zB 162) 90 = .ok (.iconst 3, 1) := by decide +kernel
theorem d162_91 : decode (zB 162) 91 = .ok (.ireturn, 1) := by decide +kernel
theorem d162_92 : decode (zB 162) 92 = .ok (.iconst 4, 1) := by decide +kernel
theorem d162_93 : decode (zB 162) 93 = .ok (.ireturn, 1) := by decide +kernel
theorem d162_94 : decode (zB 162) 94 = .ok (.iconst 5, 1) := by decide +kernel
theorem d162_95 : decode (zB 162) 95 = .ok (.ireturn, 1) := by decide +kernel
theorem d162_96 : decode (zB 162) 96 = .ok (.bipush 6, 2) := by decide +kernel
theorem d162_98 : decode (zB 162) 98 = .ok (.ireturn, 1) := by decide +kernel
theorem d162_99 : decode (zB 162) 99 = .ok (.bipush 7, 2) := by decide +kernel
theorem d162_101 : decode (zB 162) 101 = .ok (.ireturn, 1) := by decide +kernel
theorem d162_102 : decode (zB 162) 102 = .ok (.iconst (-1), 1) := by decide +kernel
theorem d162_103 : decode (zB 162) 103 = .ok (.ireturn, 1) := by decide +kernel
theorem d163_0 : decode (zB 163) 0 = .ok (.iload_n 0, 1) := by decide +kernel
theorem d163_1 : decode (zB 163) 1 = .ok (.bipush 43, 2) := by decide +kernel
theorem d163_3 : decode (zB 163) 3 = .ok (.if_icmp .ne 7, 3) := by decide +kernel
theorem d163_6 : decode (zB 163) 6 = .ok (.iconst 2, 1) := by decide +kernel
theorem d163_7 : decode (zB 163) 7 = .ok (.goto 45, 3) := by decide +kernel
theorem d163_10 : decode (zB 163) 10 = .ok (.iload_n 0, 1) := by decide +kernel
theorem d163_11 : decode (zB 163) 11 = .ok (.bipush 45, 2) := by decide +kernel
theorem d163_13 : decode (zB 163) 13 = .ok (.if_icmp .ne 7, 3) := by decide +kernel
theorem d163_16 : decode (zB 163) 16 = .ok (.iconst 3, 1) := by decide +kernel
theorem d163_17 : decode (zB 163) 17 = .ok (.goto 35, 3) := by decide +kernel
theorem d163_20 : decode (zB 163) 20 = .ok (.iload_n 0, 1) := by decide +kernel
theorem d163_21 : decode (zB 163) 21 = .ok (.bipush 42, 2) := by decide +kernel
theorem d163_23 : decode (zB 163) 23 = .ok (.if_icmp .ne 7, 3) := by decide +kernel
theorem d163_26 : decode (zB 163) 26 = .ok (.iconst 4, 1) := by decide +kernel
theorem d163_27 : decode (zB 163) 27 = .ok (.goto 25, 3) := by decide +kernel
theorem d163_30 : decode (zB 163) 30 = .ok (.iload_n 0, 1) := by decide +kernel
theorem d163_31 : decode (zB 163) 31 = .ok (.bipush 47, 2) := by decide +kernel
theorem d163_33 : decode (zB 163) 33 = .ok (.if_icmp .ne 7, 3) := by decide +kernel
theorem d163_36 : decode (zB 163) 36 = .ok (.iconst 5, 1) := by decide +kernel
theorem d163_37 : decode (zB 163) 37 = .ok (.goto 15, 3) := by decide +kernel
theorem d163_40 : decode (zB 163) 40 = .ok (.iload_n 0, 1) := by decide +kernel
theorem d163_41 : decode (zB 163) 41 = .ok (.bipush 37, 2) := by decide +kernel
theorem d163_43 : decode (zB 163) 43 = .ok (.if_icmp .ne 8, 3) := by decide +kernel
theorem d163_46 : decode (zB 163) 46 = .ok (.bipush 6, 2) := by decide +kernel
theorem d163_48 : decode (zB 163) 48 = .ok (.goto 4, 3) := by decide +kernel
theorem d163_51 : decode (zB 163) 51 = .ok (.iconst (-1), 1) := by decide +kernel
theorem d163_52 : decode (zB 163) 52 = .ok (.ireturn, 1) := by decide +kernel
theorem d164_0 : decode (zB 164) 0 = .ok (.aload_n 0, 1) := by decide +kernel
theorem d164_1 : decode (zB 164) 1 = .ok (.invokevirtual 223, 3) := by decide +kernel
theorem d164_4 : decode (zB 164) 4 = .ok (.iconst 4, 1) := by decide +kernel
theorem d164_5 : decode (zB 164) 5 = .ok (.if_icmp .lt 12, 3) := by decide +kernel
theorem d164_8 : decode (zB 164) 8 = .ok (.aload_n 0, 1) := by decide +kernel
theorem d164_9 : decode (zB 164) 9 = .ok (.invokevirtual 223, 3) := by decide +kernel
theorem d164_12 : decode (zB 164) 12 = .ok (.bipush 6, 2) := by decide +kernel
theorem d164_14 : decode (zB 164) 14 = .ok (.if_icmp .le 23, 3) := by decide +kernel
theorem d164_17 : decode (zB 164) 17 = .ok (.iload_n 1, 1) := by decide +kernel
theorem d164_18 : decode (zB 164) 18 = .ok (.ifCond .eq 41, 3) := by decide +kernel
theorem d164_21 : decode (zB 164) 21 = .ok (.aload_n 0, 1) := by decide +kernel
theorem d164_22 : decode (zB 164) 22 = .ok (.invokevirtual 223, 3) := by decide +kernel
theorem d164_25 : decode (zB 164) 25 = .ok (.iconst 2, 1) := by decide +kernel
theorem d164_26 : decode (zB 164) 26 = .ok (.if_icmp .eq 11, 3) := by decide +kernel
theorem d164_29 : decode (zB 164) 29 = .ok (.aload_n 0, 1) := by decide +kernel
theorem d164_30 : decode (zB 164) 30 = .ok (.invokevirtual 223, 3) := by decide +kernel
theorem d164_33 : decode (zB 164) 33 = .ok (.iconst 3, 1) := by decide +kernel
theorem d164_34 : decode (zB 164) 34 = .ok (.if_icmp .ne 25, 3) := by decide +kernel
theorem d164_37 : decode (zB 164) 37 = .ok (.aload_n 0, 1) := by decide +kernel
theorem d164_38 : decode (zB 164) 38 = .ok (.aload_n 0, 1) := by decide +kernel
theorem d164_39 : decode (zB 164) 39 = .ok (.invokevirtual 223, 3) := by decide +kernel
theorem d164_42 : decode (zB 164) 42 = .ok (.iconst 0, 1) := by decide +kernel
theorem d164_43 : decode (zB 164) 43 = .ok (.invokevirtual 226, 3) := by decide +kernel
theorem d164_46 : decode (zB 164) 46 = .ok (.aload_n 0, 1) := by decide +kernel
theorem d164_47 : decode (zB 164) 47 = .ok (.aload_n 0, 1) := by decide +kernel
theorem d164_48 : decode (zB 164) 48 = .ok (.getfield 220, 3) := by decide +kernel
theorem d164_51 : decode (zB 164) 51 = .ok (.iconst 1, 1) := by decide +kernel
theorem d164_52 : decode (zB 164) 52 = .ok (.isub, 1) := by decide +kernel
theorem d164_53 : decode (zB 164) 53 = .ok (.putfield 220, 3) := by decide +kernel
theorem d164_56 : decode (zB 164) 56 = .ok (.goto (-56), 3) := by decide +kernel
theorem d164_59 : decode (zB 164) 59 = .ok (.return_, 1) := by decide +kernel
theorem d165_0 : decode (zB 165) 0 = .ok (.aload_n 0, 1) := by decide +kernel
theorem d165_1 : decode (zB 165) 1 = .ok (.invokevirtual 195, 3) := by decide +kernel
theorem d165_4 : decode (zB 165) 4 = .ok (.bipush 91, 2) := by decide +kernel
theorem d165_6 : decode (zB 165) 6 = .ok (.if_icmp .ne 14, 3) := by decide +kernel
theorem d165_9 : decode (zB 165) 9 = .ok (.aload_n 0, 1) := by decide +kernel
theorem d165_10 : decode (zB 165) 10 = .ok (.bipush 14, 2) := by decide +kernel
theorem d165_12 : decode (zB 165) 12 = .ok (.invokevirtual 230, 3) := by decide +kernel
theorem d165_15 : decode (zB 165) 15 = .ok (.ifCond .ne (-15), 3) := by decide +kernel
theorem d165_18 : decode (zB 165) 18 = .ok (.iconst 0, 1) := by decide +kernel
theorem d165_19 : decode (zB 165) 19 = .ok (.ireturn, 1) := by decide +kernel
theorem d165_20 : decode (zB 165) 20 = .ok (.aload_n 0, 1) := by decide +kernel
theorem d165_21 : decode (zB 165) 21 = .ok (.invokevirtual 209, 3) := by decide +kernel
theorem d165_24 : decode (zB 165) 24 = .ok (.ifCond .eq 23, 3) := by decide +kernel
theorem d165_27 : decode (zB 165) 27 = .ok (.aload_n 0, 1) := by decide +kernel
theorem d165_28 : decode (zB 165) 28 = .ok (.invokevirtual 233, 3) := by decide +kernel
theorem d165_31 : decode (zB 165) 31 = .ok (.ifCond .ne 5, 3) := by decide +kernel
theorem d165_34 : decode (zB 165) 34 = .ok (.iconst 0, 1) := by decide +kernel
theorem d165_35 : decode (zB 165) 35 = .ok (.ireturn, 1) := by decide +kernel
theorem d165_36 : decode (zB 165) 36 = .ok (.aload_n 0, 1) := by decide +kernel
theorem d165_37 : decode (zB 165) 37 = .ok (.iconst 0, 1) := by decide +kernel
theorem d165_38 : decode (zB 165) 38 = .ok (.aload_n 0, 1) := by decide +kernel
theorem d165_39 : decode (zB 165) 39 = .ok (.getfield 206, 3) := by decide +kernel
theorem d165_42 : decode (zB 165) 42 = .ok (.invokevirtual 226, 3) := by decide +kernel
theorem d165_45 : decode (zB 165) 45 = .ok (.iconst 1, 1) := by decide +kernel
theorem d165_46 : decode (zB 165) 46 = .ok (.ireturn, 1) := by decide +kernel
theorem d165_47 : decode (zB 165) 47 = .ok (.aload_n 0, 1) := by decide +kernel
theorem d165_48 : decode (zB 165) 48 = .ok (.invokevirtual 195, 3) := by decide +kernel
theorem d165_51 : decode (zB 165) 51 = .ok (.invokestatic 236, 3) := by decide +kernel
theorem d165_54 : decode (zB 165) 54 = .ok (.istore_n 1, 1) := by decide +kernel
theorem d165_55 : decode (zB 165) 55 = .ok (.iload_n 1, 1) := by decide +kernel
theorem d165_56 : decode (zB 165) 56 = .ok (.iconst (-1), 1) := by decide +kernel
theorem d165_57 : decode (zB 165) 57 = .ok (.if_icmp .ne 13, 3) := by decide +kernel
theorem d165_60 : decode (zB 165) 60 = .ok (.aload_n 0, 1) := by decide +kernel
theorem d165_61 : decode (zB 165) 61 = .ok (.iconst 1, 1) := by decide +kernel
theorem d165_62 : decode (zB 165) 62 = .ok (.aload_n 0, 1) := by decide +kernel
theorem d165_63 : decode (zB 165) 63 = .ok (.getfield 189, 3) := by decide +kernel
theorem d165_66 : decode (zB 165) 66 = .ok (.invokevirtual 202, 3) := by decide +kernel
theorem d165_69 : decode (zB 165) 69 = .ok (.ireturn, 1) := by decide +kernel
theorem d165_70 : decode (zB 165) 70 = .ok (.aload_n 0, 1) := by decide +kernel
theorem d165_71 : decode (zB 165) 71 = .ok (.iconst 1, 1) := by decide +kernel
theorem d165_72 : decode (zB 165) 72 = .ok (.iload_n 1, 1) := by decide +kernel
theorem d165_73 : decode (zB 165) 73 = .ok (.invokevirtual 226, 3) := by decide +kernel
theorem d165_76 : decode (zB 165) 76 = .ok (.aload_n 0, 1) := by decide +kernel
theorem d165_77 : decode (zB 165) 77 = .ok (.aload_n 0, 1) := by decide +kernel
theorem d165_78 : decode (zB 165) 78 = .ok (.getfield 189, 3) := by decide +kernel
theorem d165_81 : decode (zB 165) 81 = .ok (.iconst 1, 1) := by decide +kernel
theorem d165_82 : decode (zB 165) 82 = .ok (.iadd, 1) := by decide +kernel
theorem d165_83 : decode (zB 165) 83 = .ok (.putfield 189, 3) := by decide +kernel
theorem d165_86 : decode (zB 165) 86 = .ok (.iconst 1, 1) := by decide +kernel
theorem d165_87 : decode (zB 165) 87 = .ok (.ireturn, 1) := by decide +kernel
theorem d166_0 : decode (zB 166) 0 = .ok (.iload_n 1, 1) := by decide +kernel
theorem d166_1 : decode (zB 166) 1 = .ok (.istore_n 2, 1) := by decide +kernel
theorem d166_2 : decode (zB 166) 2 = .ok (.iload_n 2, 1) := by decide +kernel
theorem d166_3 : decode (zB 166) 3 = .ok (.aload_n 0, 1) := by decide +kernel
theorem d166_4 : decode (zB 166) 4 = .ok (.getfield 220, 3) := by decide +kernel
theorem d166_7 : decode (zB 166) 7 = .ok (.if_icmp .ge 25, 3) := by decide +kernel
theorem d166_10 : decode (zB 166) 10 = .ok (.aload_n 0, 1) := by decide +kernel
theorem d166_11 : decode (zB 166) 11 = .ok (.getfield 35, 3) := by decide +kernel
theorem d166_14 : decode (zB 166) 14 = .ok (.iload_n 2, 1) := by decide +kernel
theorem d166_15 : decode (zB 166) 15 = .ok (.iaload, 1) := by decide +kernel
theorem d166_16 : decode (zB 166) 16 = .ok (.ldc 216, 2) := by decide +kernel
theorem d166_18 : decode (zB 166) 18 = .ok (.idiv, 1) := by decide +kernel
theorem d166_19 : decode (zB 166) 19 = .ok (.bipush 14, 2) := by decide +kernel
theorem d166_21 : decode (zB 166) 21 = .ok (.if_icmp .ne 5, 3) := by decide +kernel
theorem d166_24 : decode (zB 166) 24 = .ok (.iconst 1, 1) := by decide +kernel
theorem d166_25 : decode (zB 166) 25 = .ok (.ireturn, 1) := by decide +kernel
theorem d166_26 : decode (zB 166) 26 = .ok (.iinc 2 1, 3) := by decide +kernel
theorem d166_29 : decode (zB 166) 29 = .ok (.goto (-27), 3) := by decide +kernel
theorem d166_32 : decode (zB 166) 32 = .ok (.iconst 0, 1) := by decide +kernel
theorem d166_33 : decode (zB 166) 33 = .ok (.ireturn, 1) := by decide +kernel
theorem d167_0 : decode (zB 167) 0 = .ok (.aload_n 0, 1) := by decide +kernel
theorem d167_1 : decode (zB 167) 1 = .ok (.getfield 220, 3) := by decide +kernel
theorem d167_4 : decode (zB 167) 4 = .ok (.istore_n 1, 1) := by decide +kernel
theorem d167_5 : decode (zB 167) 5 = .ok (.aload_n 0, 1) := by decide +kernel
theorem d167_6 : decode (zB 167) 6 = .ok (.invokevirtual 240, 3) := by decide +kernel
theorem d167_9 : decode (zB 167) 9 = .ok (.ifCond .ne 5, 3) := by decide +kernel
theorem d167_12 : decode (zB 167) 12 = .ok (.iconst 0, 1) := by decide +kernel
theorem d167_13 : decode (zB 167) 13 = .ok (.ireturn, 1) := by decide +kernel
theorem d167_14 : decode (zB 167) 14 = .ok (.aload_n 0, 1) := by decide +kernel
theorem d167_15 : decode (zB 167) 15 = .ok (.invokevirtual 195, 3) := by decide +kernel
theorem d167_18 : decode (zB 167) 18 = .ok (.invokestatic 243, 3) := by decide +kernel
theorem d167_21 : decode (zB 167) 21 = .ok (.istore_n 2, 1) := by decide +kernel
theorem d167_22 : decode (zB 167) 22 = .ok (.iload_n 2, 1) := by decide +kernel
theorem d167_23 : decode (zB 167) 23 = .ok (.iconst (-1), 1) := by decide +kernel
theorem d167_24 : decode (zB 167) 24 = .ok (.if_icmp .eq 59, 3) := by decide +kernel
theorem d167_27 : decode (zB 167) 27 = .ok (.aload_n 0, 1) := by decide +kernel
theorem d167_28 : decode (zB 167) 28 = .ok (.iload_n 2, 1) := by decide +kernel
theorem d167_29 : decode (zB 167) 29 = .ok (.iconst 4, 1) := by decide +kernel
theorem d167_30 : decode (zB 167) 30 = .ok (.if_icmp .ge 7, 3) := by decide +kernel
theorem d167_33 : decode (zB 167) 33 = .ok (.iconst 1, 1) := by decide +kernel
theorem d167_34 : decode (zB 167) 34 = .ok (.goto 4, 3) := by decide +kernel
theorem d167_37 : decode (zB 167) 37 = .ok (.iconst 0, 1) := by decide +kernel
theorem d167_38 : decode (zB 167) 38 = .ok (.invokevirtual 246, 3) := by decide +kernel
theorem d167_41 : decode (zB 167) 41 = .ok (.aload_n 0, 1) := by decide +kernel
theorem d167_42 : decode (zB 167) 42 = .ok (.getfield 35, 3) := by decide +kernel
theorem d167_45 : decode (zB 167) 45 = .ok (.aload_n 0, 1) := by decide +kernel
theorem d167_46 : decode (zB 167) 46 = .ok (.getfield 220, 3) := by decide +kernel
theorem d167_49 : decode (zB 167) 49 = .ok (.ldc 216, 2) := by decide +kernel
theorem d167_51 : decode (zB 167) 51 = .ok (.iload_n 2, 1) := by decide +kernel
theorem d167_52 : decode (zB 167) 52 = .ok (.imul, 1) := by decide +kernel
theorem d167_53 : decode (zB 167) 53 = .ok (.iastore, 1) := by decide +kernel
theorem d167_54 : decode (zB 167) 54 = .ok (.aload_n 0, 1) := by decide +kernel
theorem d167_55 : decode (zB 167) 55 = .ok (.aload_n 0, 1) := by decide +kernel
theorem d167_56 : decode (zB 167) 56 = .ok (.getfield 220, 3) := by decide +kernel
theorem d167_59 : decode (zB 167) 59 = .ok (.iconst 1, 1) := by decide +kernel
theorem d167_60 : decode (zB 167) 60 = .ok (.iadd, 1) := by decide +kernel
theorem d167_61 : decode (zB 167) 61 = .ok (.putfield 220, 3) := by decide +kernel
theorem d167_64 : decode (zB 167) 64 = .ok (.aload_n 0, 1) := by decide +kernel
theorem d167_65 : decode (zB 167) 65 = .ok (.aload_n 0, 1) := by decide +kernel
theorem d167_66 : decode (zB 167) 66 = .ok (.getfield 189, 3) := by decide +kernel
theorem d167_69 : decode (zB 167) 69 = .ok (.iconst 1, 1) := by decide +kernel
theorem d167_70 : decode (zB 167) 70 = .ok (.iadd, 1) := by decide +kernel
theorem d167_71 : decode (zB 167) 71 = .ok (.putfield 189, 3) := by decide +kernel
theorem d167_74 : decode (zB 167) 74 = .ok (.aload_n 0, 1) := by decide +kernel
theorem d167_75 : decode (zB 167) 75 = .ok (.invokevirtual 240, 3) := by decide +kernel
theorem d167_78 : decode (zB 167) 78 = .ok (.ifCond .ne 85, 3) := by decide +kernel
theorem d167_81 : decode (zB 167) 81 = .ok (.iconst 0, 1) := by decide +kernel
theorem d167_82 : decode (zB 167) 82 = .ok (.ireturn, 1) := by decide +kernel
theorem d167_83 : decode (zB 167) 83 = .ok (.aload_n 0, 1) := by decide +kernel
theorem d167_84 : decode (zB 167) 84 = .ok (.invokevirtual 195, 3) := by decide +kernel
theorem d167_87 : decode (zB 167) 87 = .ok (.bipush 93, 2) := by decide +kernel
theorem d167_89 : decode (zB 167) 89 = .ok (.if_icmp .ne 49, 3) := by decide +kernel
theorem d167_92 : decode (zB 167) 92 = .ok (.aload_n 0, 1) := by decide +kernel
theorem d167_93 : decode (zB 167) 93 = .ok (.iload_n 1, 1) := by decide +kernel
theorem d167_94 : decode (zB 167) 94 = .ok (.invokevirtual 250, 3) := by decide +kernel
theorem d167_97 : decode (zB 167) 97 = .ok (.ifCond .eq 41, 3) := by decide +kernel
theorem d167_100 : decode (zB 167) 100 = .ok (.aload_n 0, 1) := by decide +kernel
theorem d167_101 : decode (zB 167) 101 = .ok (.iconst 1, 1) := by decide +kernel
theorem d167_102 : decode (zB 167) 102 = .ok (.invokevirtual 246, 3) := by decide +kernel
theorem d167_105 : decode (zB 167) 105 = .ok (.aload_n 0, 1) := by decide +kernel
theorem d167_106 : decode (zB 167) 106 = .ok (.aload_n 0, 1) := by decide +kernel
theorem d167_107 : decode (zB 167) 107 = .ok (.getfield 220, 3) := by decide +kernel
theorem d167_110 : decode (zB 167) 110 = .ok (.iconst 1, 1) := by decide +kernel
theorem d167_111 : decode (zB 167) 111 = .ok (.isub, 1) := by decide +kernel
theorem d167_112 : decode (zB 167) 112 = .ok (.putfield 220, 3) := by decide +kernel
theorem d167_115 : decode (zB 167) 115 = .ok (.aload_n 0, 1) := by decide +kernel
theorem d167_116 : decode (zB 167) 116 = .ok (.aload_n 0, 1) := by decide +kernel
theorem d167_117 : decode (zB 167) 117 = .ok (.getfield 217, 3) := by decide +kernel
theorem d167_120 : decode (zB 167) 120 = .ok (.iconst 1, 1) := by decide +kernel
theorem d167_121 : decode (zB 167) 121 = .ok (.isub, 1) := by decide +kernel
theorem d167_122 : decode (zB 167) 122 = .ok (.putfield 217, 3) := by decide +kernel
theorem d167_125 : decode (zB 167) 125 = .ok (.aload_n 0, 1) := by decide +kernel
theorem d167_126 : decode (zB 167) 126 = .ok (.aload_n 0, 1) := by decide +kernel
theorem d167_127 : decode (zB 167) 127 = .ok (.getfield 189, 3) := by decide +kernel
theorem d167_130 : decode (zB 167) 130 = .ok (.iconst 1, 1) := by decide +kernel
theorem d167_131 : decode (zB 167) 131 = .ok (.iadd, 1) := by decide +kernel
theorem d167_132 : decode (zB 167) 132 = .ok (.putfield 189, 3) := by decide +kernel
theorem d167_135 : decode (zB 167) 135 = .ok (.goto 28, 3) := by decide +kernel
theorem d167_138 : decode (zB 167) 138 = .ok (.aload_n 0, 1) := by decide +kernel
theorem d167_139 : decode (zB 167) 139 = .ok (.iload_n 1, 1) := by decide +kernel
theorem d167_140 : decode (zB 167) 140 = .ok (.invokevirtual 250, 3) := by decide +kernel
theorem d167_143 : decode (zB 167) 143 = .ok (.ifCond .eq 13, 3) := by decide +kernel
theorem d167_146 : decode (zB 167) 146 = .ok (.aload_n 0, 1) := by decide +kernel
theorem d167_147 : decode (zB 167) 147 = .ok (.iconst 1, 1) := by decide +kernel
theorem d167_148 : decode (zB 167) 148 = .ok (.aload_n 0, 1) := by decide +kernel
theorem d167_149 : decode (zB 167) 149 = .ok (.getfield 189, 3) := by decide +kernel
theorem d167_152 : decode (zB 167) 152 = .ok (.invokevirtual 202, 3) := by decide +kernel
theorem d167_155 : decode (zB 167) 155 = .ok (.ireturn, 1) := by decide +kernel
theorem d167_156 : decode (zB 167) 156 = .ok (.aload_n 0, 1) := by decide +kernel
theorem d167_157 : decode (zB 167) 157 = .ok (.iconst 1, 1) := by decide +kernel
theorem d167_158 : decode (zB 167) 158 = .ok (.invokevirtual 246, 3) := by decide +kernel
theorem d167_161 : decode (zB 167) 161 = .ok (.iconst 1, 1) := by decide +kernel
theorem d167_162 : decode (zB 167) 162 = .ok (.ireturn, 1) := by decide +kernel
theorem d167_163 : decode (zB 167) 163 = .ok (.goto (-149), 3) := by decide +kernel
theorem d168_0 : decode (zB 168) 0 = .ok (.aload_n 0, 1) := by decide +kernel
theorem d168_1 : decode (zB 168) 1 = .ok (.invokevirtual 223, 3) := by decide +kernel
theorem d168_4 : decode (zB 168) 4 = .ok (.bipush 10, 2) := by decide +kernel
theorem d168_6 : decode (zB 168) 6 = .ok (.if_icmp .ne 33, 3) := by decide +kernel
theorem d168_9 : decode (zB 168) 9 = .ok (.aload_n 0, 1) := by decide +kernel
theorem d168_10 : decode (zB 168) 10 = .ok (.bipush 10, 2) := by decide +kernel
theorem d168_12 : decode (zB 168) 12 = .ok (.iconst 0, 1) := by decide +kernel
theorem d168_13 : decode (zB 168) 13 = .ok (.invokevirtual 226, 3) := by decide +kernel
theorem d168_16 : decode (zB 168) 16 = .ok (.aload_n 0, 1) := by decide +kernel
theorem d168_17 : decode (zB 168) 17 = .ok (.aload_n 0, 1) := by decide +kernel
theorem d168_18 : decode (zB 168) 18 = .ok (.getfield 220, 3) := by decide +kernel
theorem d168_21 : decode (zB 168) 21 = .ok (.iconst 1, 1) := by decide +kernel
theorem d168_22 : decode (zB 168) 22 = .ok (.isub, 1) := by decide +kernel
theorem d168_23 : decode (zB 168) 23 = .ok (.putfield 220, 3) := by decide +kernel
theorem d168_26 : decode (zB 168) 26 = .ok (.aload_n 0, 1) := by decide +kernel
theorem d168_27 : decode (zB 168) 27 = .ok (.aload_n 0, 1) := by decide +kernel
theorem d168_28 : decode (zB 168) 28 = .ok (.getfield 217, 3) := by decide +kernel
theorem d168_31 : decode (zB 168) 31 = .ok (.iconst 1, 1) := by decide +kernel
theorem d168_32 : decode (zB 168) 32 = .ok (.isub, 1) := by decide +kernel
theorem d168_33 : decode (zB 168) 33 = .ok (.putfield 217, 3) := by decide +kernel
theorem d168_36 : decode (zB 168) 36 = .ok (.goto (-36), 3) := by decide +kernel
theorem d168_39 : decode (zB 168) 39 = .ok (.return_, 1) := by decide +kernel
theorem d169_0 : decode (zB 169) 0 = .ok (.aload_n 0, 1) := by decide +kernel
theorem d169_1 : decode (zB 169) 1 = .ok (.invokevirtual 223, 3) := by decide +kernel
theorem d169_4 : decode (zB 169) 4 = .ok (.bipush 11, 2) := by decide +kernel
theorem d169_6 : decode (zB 169) 6 = .ok (.if_icmp .eq 16, 3) := by decide +kernel
theorem d169_9 : decode (zB 169) 9 = .ok (.iload_n 1, 1) := by decide +kernel
theorem d169_10 : decode (zB 169) 10 = .ok (.ifCond .eq 63, 3) := by decide +kernel
theorem d169_13 : decode (zB 169) 13 = .ok (.aload_n 0, 1) := by decide +kernel
theorem d169_14 : decode (zB 169) 14 = .ok (.invokevirtual 223, 3) := by decide +kernel
theorem d169_17 : decode (zB 169) 17 = .ok (.bipush 12, 2) := by decide +kernel
theorem d169_19 : decode (zB 169) 19 = .ok (.if_icmp .ne 54, 3) := by decide +kernel
theorem d169_22 : decode (zB 169) 22 = .ok (.aload_n 0, 1) := by decide +kernel
theorem d169_23 : decode (zB 169) 23 = .ok (.getfield 35, 3) := by decide +kernel
theorem d169_26 : decode (zB 169) 26 = .ok (.aload_n 0, 1) := by decide +kernel
theorem d169_27 : decode (zB 169) 27 = .ok (.getfield 220, 3) := by decide +kernel
theorem d169_30 : decode (zB 169) 30 = .ok (.iconst 1, 1) := by decide +kernel
theorem d169_31 : decode (zB 169) 31 = .ok (.isub, 1) := by decide +kernel
theorem d169_32 : decode (zB 169) 32 = .ok (.iaload, 1) := by decide +kernel
theorem d169_33 : decode (zB 169) 33 = .ok (.ldc 216, 2) := by decide +kernel
theorem d169_35 : decode (zB 169) 35 = .ok (.irem, 1) := by decide +kernel
theorem d169_36 : decode (zB 169) 36 = .ok (.istore_n 2, 1) := by decide +kernel
theorem d169_37 : decode (zB 169) 37 = .ok (.aload_n 0, 1) := by decide +kernel
theorem d169_38 : decode (zB 169) 38 = .ok (.getfield 32, 3) := by decide +kernel
theorem d169_41 : decode (zB 169) 41 = .ok (.iload_n 2, 1) := by decide +kernel
theorem d169_42 : decode (zB 169) 42 = .ok (.ldc 216, 2) := by decide +kernel
theorem d169_44 : decode (zB 169) 44 = .ok (.aload_n 0, 1) := by decide +kernel
theorem d169_45 : decode (zB 169) 45 = .ok (.getfield 32, 3) := by decide +kernel
theorem d169_48 : decode (zB 169) 48 = .ok (.iload_n 2, 1) := by decide +kernel
theorem d169_49 : decode (zB 169) 49 = .ok (.iaload, 1) := by decide +kernel
theorem d169_50 : decode (zB 169) 50 = .ok (.ldc 216, 2) := by decide +kernel
theorem d169_52 : decode (zB 169) 52 = .ok (.idiv, 1) := by decide +kernel
theorem d169_53 : decode (zB 169) 53 = .ok (.imul, 1) := by decide +kernel
theorem d169_54 : decode (zB 169) 54 = .ok (.aload_n 0, 1) := by decide +kernel
theorem d169_55 : decode (zB 169) 55 = .ok (.getfield 213, 3) := by decide +kernel
theorem d169_58 : decode (zB 169) 58 = .ok (.iadd, 1) := by decide +kernel
theorem d169_59 : decode (zB 169) 59 = .ok (.iastore, 1) := by decide +kernel
theorem d169_60 : decode (zB 169) 60 = .ok (.aload_n 0, 1) := by decide +kernel
theorem d169_61 : decode (zB 169) 61 = .ok (.aload_n 0, 1) := by decide +kernel
theorem d169_62 : decode (zB 169) 62 = .ok (.getfield 220, 3) := by decide +kernel
theorem d169_65 : decode (zB 169) 65 = .ok (.iconst 1, 1) := by decide +kernel
theorem d169_66 : decode (zB 169) 66 = .ok (.isub, 1) := by decide +kernel
theorem d169_67 : decode (zB 169) 67 = .ok (.putfield 220, 3) := by decide +kernel
theorem d169_70 : decode (zB 169) 70 = .ok (.goto (-70), 3) := by decide +kernel
theorem d169_73 : decode (zB 169) 73 = .ok (.return_, 1) := by decide +kernel
theorem d170_0 : decode (zB 170) 0 = .ok (.aload_n 0, 1) := by decide +kernel
theorem d170_1 : decode (zB 170) 1 = .ok (.getfield 35, 3) := by decide +kernel
theorem d170_4 : decode (zB 170) 4 = .ok (.aload_n 0, 1) := by decide +kernel
theorem d170_5 : decode (zB 170) 5 = .ok (.getfield 220, 3) := by decide +kernel
theorem d170_8 : decode (zB 170) 8 = .ok (.ldc 216, 2) := by decide +kernel
theorem d170_10 : decode (zB 170) 10 = .ok (.iload_n 1, 1) := by decide +kernel
theorem d170_11 : decode (zB 170) 11 = .ok (.imul, 1) := by decide +kernel
theorem d170_12 : decode (zB 170) 12 = .ok (.aload_n 0, 1) := by decide +kernel
theorem d170_13 : decode (zB 170) 13 = .ok (.getfield 213, 3) := by decide +kernel
theorem d170_16 : decode (zB 170) 16 = .ok (.iadd, 1) := by decide +kernel
theorem d170_17 : decode (zB 170) 17 = .ok (.iastore, 1) := by decide +kernel
theorem d170_18 : decode (zB 170) 18 = .ok (.aload_n 0, 1) := by decide +kernel
theorem d170_19 : decode (zB 170) 19 = .ok (.aload_n 0, 1) := by decide +kernel
theorem d170_20 : decode (zB 170) 20 = .ok (.getfield 220, 3) := by decide +kernel
theorem d170_23 : decode (zB 170) 23 = .ok (.iconst 1, 1) := by decide +kernel
theorem d170_24 : decode (zB 170) 24 = .ok (.iadd, 1) := by decide +kernel
theorem d170_25 : decode (zB 170) 25 = .ok (.putfield 220, 3) := by decide +kernel
theorem d170_28 : decode (zB 170) 28 = .ok (.aload_n 0, 1) := by decide +kernel
theorem d170_29 : decode (zB 170) 29 = .ok (.iload_n 1, 1) := by decide +kernel
theorem d170_30 : decode (zB 170) 30 = .ok (.iconst 0, 1) := by decide +kernel
theorem d170_31 : decode (zB 170) 31 = .ok (.invokevirtual 226, 3) := by decide +kernel
theorem d170_34 : decode (zB 170) 34 = .ok (.aload_n 0, 1) := by decide +kernel
theorem d170_35 : decode (zB 170) 35 = .ok (.aload_n 0, 1) := by decide +kernel
theorem d170_36 : decode (zB 170) 36 = .ok (.getfield 189, 3) := by decide +kernel
theorem d170_39 : decode (zB 170) 39 = .ok (.iconst 1, 1) := by decide +kernel
theorem d170_40 : decode (zB 170) 40 = .ok (.iadd, 1) := by decide +kernel
theorem d170_41 : decode (zB 170) 41 = .ok (.putfield 189, 3) := by decide +kernel
theorem d170_44 : decode (zB 170) 44 = .ok (.return_, 1) := by decide +kernel
theorem d171_0 : decode (zB 171) 0 = .ok (.aload_n 0, 1) := by decide +kernel
theorem d171_1 : decode (zB 171) 1 = .ok (.invokevirtual 253, 3) := by decide +kernel
theorem d171_4 : decode (zB 171) 4 = .ok (.ifCond .ne 5, 3) := by decide +kernel
theorem d171_7 : decode (zB 171) 7 = .ok (.iconst 0, 1) := by decide +kernel
theorem d171_8 : decode (zB 171) 8 = .ok (.ireturn, 1) := by decide +kernel
theorem d171_9 : decode (zB 171) 9 = .ok (.aload_n 0, 1) := by decide +kernel
theorem d171_10 : decode (zB 171) 10 = .ok (.invokevirtual 195, 3) := by decide +kernel
theorem d171_13 : decode (zB 171) 13 = .ok (.bipush 60, 2) := by decide +kernel
theorem d171_15 : decode (zB 171) 15 = .ok (.if_icmp .ne 8, 3) := by decide +kernel
theorem d171_18 : decode (zB 171) 18 = .ok (.bipush 7, 2) := by decide +kernel
theorem d171_20 : decode (zB 171) 20 = .ok (.goto 32, 3) := by decide +kernel
theorem d171_23 : decode (zB 171) 23 = .ok (.aload_n 0, 1) := by decide +kernel
theorem d171_24 : decode (zB 171) 24 = .ok (.invokevirtual 195, 3) := by decide +kernel
theorem d171_27 : decode (zB 171) 27 = .ok (.bipush 62, 2) := by decide +kernel
theorem d171_29 : decode (zB 171) 29 = .ok (.if_icmp .ne 8, 3) := by decide +kernel
theorem d171_32 : decode (zB 171) 32 = .ok (.bipush 8, 2) := by decide +kernel
theorem d171_34 : decode (zB 171) 34 = .ok (.goto 18, 3) := by decide +kernel
theorem d171_37 : decode (zB 171) 37 = .ok (.aload_n 0, 1) := by decide +kernel
theorem d171_38 : decode (zB 171) 38 = .ok (.invokevirtual 195, 3) := by decide +kernel
theorem d171_41 : decode (zB 171) 41 = .ok (.bipush 61, 2) := by decide +kernel
theorem d171_43 : decode (zB 171) 43 = .ok (.if_icmp .ne 8, 3) := by decide +kernel
theorem d171_46 : decode (zB 171) 46 = .ok (.bipush 9, 2) := by decide +kernel
theorem d171_48 : decode (zB 171) 48 = .ok (.goto 4, 3) := by decide +kernel
theorem d171_51 : decode (zB 171) 51 = .ok (.iconst (-1), 1) := by decide +kernel
theorem d171_52 : decode (zB 171) 52 = .ok (.istore_n 1, 1) := by decide +kernel
theorem d171_53 : decode (zB 171) 53 = .ok (.iload_n 1, 1) := by decide +kernel
theorem d171_54 : decode (zB 171) 54 = .ok (.iconst (-1), 1) := by decide +kernel
theorem d171_55 : decode (zB 171) 55 = .ok (.if_icmp .ne 13, 3) := by decide +kernel
theorem d171_58 : decode (zB 171) 58 = .ok (.aload_n 0, 1) := by decide +kernel
theorem d171_59 : decode (zB 171) 59 = .ok (.iconst 1, 1) := by decide +kernel
theorem d171_60 : decode (zB 171) 60 = .ok (.aload_n 0, 1) := by decide +kernel
theorem d171_61 : decode (zB 171) 61 = .ok (.getfield 189, 3) := by decide +kernel
theorem d171_64 : decode (zB 171) 64 = .ok (.invokevirtual 202, 3) := by decide +kernel
theorem d171_67 : decode (zB 171) 67 = .ok (.ireturn, 1) := by decide +kernel
theorem d171_68 : decode (zB 171) 68 = .ok (.aload_n 0, 1) := by decide +kernel
theorem d171_69 : decode (zB 171) 69 = .ok (.aload_n 0, 1) := by decide +kernel
theorem d171_70 : decode (zB 171) 70 = .ok (.getfield 189, 3) := by decide +kernel
theorem d171_73 : decode (zB 171) 73 = .ok (.iconst 1, 1) := by decide +kernel
theorem d171_74 : decode (zB 171) 74 = .ok (.iadd, 1) := by decide +kernel
theorem d171_75 : decode (zB 171) 75 = .ok (.putfield 189, 3) := by decide +kernel
theorem d171_78 : decode (zB 171) 78 = .ok (.aload_n 0, 1) := by decide +kernel
theorem d171_79 : decode (zB 171) 79 = .ok (.invokevirtual 253, 3) := by decide +kernel
theorem d171_82 : decode (zB 171) 82 = .ok (.ifCond .ne 5, 3) := by decide +kernel
theorem d171_85 : decode (zB 171) 85 = .ok (.iconst 0, 1) := by decide +kernel
theorem d171_86 : decode (zB 171) 86 = .ok (.ireturn, 1) := by decide +kernel
theorem d171_87 : decode (zB 171) 87 = .ok (.aload_n 0, 1) := by decide +kernel
theorem d171_88 : decode (zB 171) 88 = .ok (.iload_n 1, 1) := by decide +kernel
theorem d171_89 : decode (zB 171) 89 = .ok (.iconst 0, 1) := by decide +kernel
theorem d171_90 : decode (zB 171) 90 = .ok (.invokevirtual 226, 3) := by decide +kernel
theorem d171_93 : decode (zB 171) 93 = .ok (.aload_n 0, 1) := by decide +kernel
theorem d171_94 : decode (zB 171) 94 = .ok (.invokevirtual 256, 3) := by decide +kernel
theorem d171_97 : decode (zB 171) 97 = .ok (.iconst 1, 1) := by decide +kernel
theorem d171_98 : decode (zB 171) 98 = .ok (.ireturn, 1) := by decide +kernel
theorem d172_0 : decode (zB 172) 0 = .ok (.aload_n 0, 1) := by decide +kernel
theorem d172_1 : decode (zB 172) 1 = .ok (.invokevirtual 195, 3) := by decide +kernel
theorem d172_4 : decode (zB 172) 4 = .ok (.bipush 40, 2) := by decide +kernel
theorem d172_6 : decode (zB 172) 6 = .ok (.if_icmp .eq 13, 3) := by decide +kernel
theorem d172_9 : decode (zB 172) 9 = .ok (.aload_n 0, 1) := by decide +kernel
theorem d172_10 : decode (zB 172) 10 = .ok (.iconst 1, 1) := by decide +kernel
theorem d172_11 : decode (zB 172) 11 = .ok (.aload_n 0, 1) := by decide +kernel
theorem d172_12 : decode (zB 172) 12 = .ok (.getfield 189, 3) := by decide +kernel
theorem d172_15 : decode (zB 172) 15 = .ok (.invokevirtual 202, 3) := by decide +kernel
theorem d172_18 : decode (zB 172) 18 = .ok (.ireturn, 1) := by decide +kernel
theorem d172_19 : decode (zB 172) 19 = .ok (.aload_n 0, 1) := by decide +kernel
theorem d172_20 : decode (zB 172) 20 = .ok (.iconst 0, 1) := by decide +kernel
theorem d172_21 : decode (zB 172) 21 = .ok (.putfield 217, 3) := by decide +kernel
theorem d172_24 : decode (zB 172) 24 = .ok (.aload_n 0, 1) := by decide +kernel
theorem d172_25 : decode (zB 172) 25 = .ok (.iconst 0, 1) := by decide +kernel
theorem d172_26 : decode (zB 172) 26 = .ok (.putfield 220, 3) := by decide +kernel
theorem d172_29 : decode (zB 172) 29 = .ok (.aload_n 0, 1) := by decide +kernel
theorem d172_30 : decode (zB 172) 30 = .ok (.bipush 13, 2) := by decide +kernel
theorem d172_32 : decode (zB 172) 32 = .ok (.invokevirtual 230, 3) := by decide +kernel
theorem d172_35 : decode (zB 172) 35 = .ok (.ifCond .ne 5, 3) := by decide +kernel
theorem d172_38 : decode (zB 172) 38 = .ok (.iconst 0, 1) := by decide +kernel
theorem d172_39 : decode (zB 172) 39 = .ok (.ireturn, 1) := by decide +kernel
theorem d172_40 : decode (zB 172) 40 = .ok (.aload_n 0, 1) := by decide +kernel
theorem d172_41 : decode (zB 172) 41 = .ok (.invokevirtual 195, 3) := by decide +kernel
theorem d172_44 : decode (zB 172) 44 = .ok (.bipush 33, 2) := by decide +kernel
theorem d172_46 : decode (zB 172) 46 = .ok (.if_icmp .eq 12, 3) := by decide +kernel
theorem d172_49 : decode (zB 172) 49 = .ok (.aload_n 0, 1) := by decide +kernel
theorem d172_50 : decode (zB 172) 50 = .ok (.invokevirtual 195, 3) := by decide +kernel
theorem d172_53 : decode (zB 172) 53 = .ok (.bipush 40, 2) := by decide +kernel
theorem d172_55 : decode (zB 172) 55 = .ok (.if_icmp .ne 28, 3) := by decide +kernel
theorem d172_58 : decode (zB 172) 58 = .ok (.aload_n 0, 1) := by decide +kernel
theorem d172_59 : decode (zB 172) 59 = .ok (.aload_n 0, 1) := by decide +kernel
theorem d172_60 : decode (zB 172) 60 = .ok (.invokevirtual 195, 3) := by decide +kernel
theorem d172_63 : decode (zB 172) 63 = .ok (.bipush 33, 2) := by decide +kernel
theorem d172_65 : decode (zB 172) 65 = .ok (.if_icmp .ne 8, 3) := by decide +kernel
theorem d172_68 : decode (zB 172) 68 = .ok (.bipush 10, 2) := by decide +kernel
theorem d172_70 : decode (zB 172) 70 = .ok (.goto 5, 3) := by decide +kernel
theorem d172_73 : decode (zB 172) 73 = .ok (.bipush 13, 2) := by decide +kernel
theorem d172_75 : decode (zB 172) 75 = .ok (.invokevirtual 230, 3) := by decide +kernel
theorem d172_78 : decode (zB 172) 78 = .ok (.ifCond .ne (-38), 3) := by decide +kernel
theorem d172_81 : decode (zB 172) 81 = .ok (.iconst 0, 1) := by decide +kernel
theorem d172_82 : decode (zB 172) 82 = .ok (.ireturn, 1) := by decide +kernel
theorem d172_83 : decode (zB 172) 83 = .ok (.aload_n 0, 1) := by decide +kernel
theorem d172_84 : decode (zB 172) 84 = .ok (.invokevirtual 259, 3) := by decide +kernel
theorem d172_87 : decode (zB 172) 87 = .ok (.ifCond .ne 5, 3) := by decide +kernel
theorem d172_90 : decode (zB 172) 90 = .ok (.iconst 0, 1) := by decide +kernel
theorem d172_91 : decode (zB 172) 91 = .ok (.ireturn, 1) := by decide +kernel
theorem d172_92 : decode (zB 172) 92 = .ok (.aload_n 0, 1) := by decide +kernel
theorem d172_93 : decode (zB 172) 93 = .ok (.invokevirtual 195, 3) := by decide +kernel
theorem d172_96 : decode (zB 172) 96 = .ok (.bipush 41, 2) := by decide +kernel
theorem d172_98 : decode (zB 172) 98 = .ok (.if_icmp .ne 54, 3) := by decide +kernel
theorem d172_101 : decode (zB 172) 101 = .ok (.aload_n 0, 1) := by decide +kernel
theorem d172_102 : decode (zB 172) 102 = .ok (.iconst 1, 1) := by decide +kernel
theorem d172_103 : decode (zB 172) 103 = .ok (.invokevirtual 262, 3) := by decide +kernel
theorem d172_106 : decode (zB 172) 106 = .ok (.aload_n 0, 1) := by decide +kernel
theorem d172_107 : decode (zB 172) 107 = .ok (.aload_n 0, 1) := by decide +kernel
theorem d172_108 : decode (zB 172) 108 = .ok (.getfield 220, 3) := by decide +kernel
theorem d172_111 : decode (zB 172) 111 = .ok (.iconst 1, 1) := by decide +kernel
theorem d172_112 : decode (zB 172) 112 = .ok (.isub, 1) := by decide +kernel
theorem d172_113 : decode (zB 172) 113 = .ok (.putfield 220, 3) := by decide +kernel
theorem d172_116 : decode (zB 172) 116 = .ok (.aload_n 0, 1) := by decide +kernel
theorem d172_117 : decode (zB 172) 117 = .ok (.aload_n 0, 1) := by decide +kernel
theorem d172_118 : decode (zB 172) 118 = .ok (.getfield 217, 3) := by decide +kernel
theorem d172_121 : decode (zB 172) 121 = .ok (.iconst 1, 1) := by decide +kernel
theorem d172_122 : decode (zB 172) 122 = .ok (.isub, 1) := by decide +kernel
theorem d172_123 : decode (zB 172) 123 = .ok (.putfield 217, 3) := by decide +kernel
theorem d172_126 : decode (zB 172) 126 = .ok (.aload_n 0, 1) := by decide +kernel
theorem d172_127 : decode (zB 172) 127 = .ok (.aload_n 0, 1) := by decide +kernel
theorem d172_128 : decode (zB 172) 128 = .ok (.getfield 189, 3) := by decide +kernel
theorem d172_131 : decode (zB 172) 131 = .ok (.iconst 1, 1) := by decide +kernel
theorem d172_132 : decode (zB 172) 132 = .ok (.iadd, 1) := by decide +kernel
theorem d172_133 : decode (zB 172) 133 = .ok (.putfield 189, 3) := by decide +kernel
theorem d172_136 : decode (zB 172) 136 = .ok (.aload_n 0, 1) := by decide +kernel
theorem d172_137 : decode (zB 172) 137 = .ok (.getfield 220, 3) := by decide +kernel
theorem d172_140 : decode (zB 172) 140 = .ok (.ifCond .ne 5, 3) := by decide +kernel
theorem d172_143 : decode (zB 172) 143 = .ok (.iconst 1, 1) := by decide +kernel
theorem d172_144 : decode (zB 172) 144 = .ok (.ireturn, 1) := by decide +kernel
theorem d172_145 : decode (zB 172) 145 = .ok (.aload_n 0, 1) := by decide +kernel
theorem d172_146 : decode (zB 172) 146 = .ok (.invokevirtual 256, 3) := by decide +kernel
theorem d172_149 : decode (zB 172) 149 = .ok (.goto (-57), 3) := by decide +kernel
theorem d172_152 : decode (zB 172) 152 = .ok (.aload_n 0, 1) := by decide +kernel
theorem d172_153 : decode (zB 172) 153 = .ok (.invokevirtual 195, 3) := by decide +kernel
theorem d172_156 : decode (zB 172) 156 = .ok (.bipush 38, 2) := by decide +kernel
theorem d172_158 : decode (zB 172) 158 = .ok (.if_icmp .eq 22, 3) := by decide +kernel
theorem d172_161 : decode (zB 172) 161 = .ok (.aload_n 0, 1) := by decide +kernel
theorem d172_162 : decode (zB 172) 162 = .ok (.invokevirtual 195, 3) := by decide +kernel
theorem d172_165 : decode (zB 172) 165 = .ok (.bipush 124, 2) := by decide +kernel
theorem d172_167 : decode (zB 172) 167 = .ok (.if_icmp .eq 13, 3) := by decide +kernel
theorem d172_170 : decode (zB 172) 170 = .ok (.aload_n 0, 1) := by decide +kernel
theorem d172_171 : decode (zB 172) 171 = .ok (.iconst 1, 1) := by decide +kernel
theorem d172_172 : decode (zB 172) 172 = .ok (.aload_n 0, 1) := by decide +kernel
theorem d172_173 : decode (zB 172) 173 = .ok (.getfield 189, 3) := by decide +kernel
theorem d172_176 : decode (zB 172) 176 = .ok (.invokevirtual 202, 3) := by decide +kernel
theorem d172_179 : decode (zB 172) 179 = .ok (.ireturn, 1) := by decide +kernel
theorem d172_180 : decode (zB 172) 180 = .ok (.aload_n 0, 1) := by decide +kernel
theorem d172_181 : decode (zB 172) 181 = .ok (.aload_n 0, 1) := by decide +kernel
theorem d172_182 : decode (zB 172) 182 = .ok (.invokevirtual 195, 3) := by decide +kernel
theorem d172_185 : decode (zB 172) 185 = .ok (.bipush 124, 2) := by decide +kernel
theorem d172_187 : decode (zB 172) 187 = .ok (.if_icmp .ne 7, 3) := by decide +kernel
theorem d172_190 : decode (zB 172) 190 = .ok (.iconst 1, 1) := by decide +kernel
theorem d172_191 : decode (zB 172) 191 = .ok (.goto 4, 3) := by decide +kernel
theorem d172_194 : decode (zB 172) 194 = .ok (.iconst 0, 1) := by decide +kernel
theorem d172_195 : decode (zB 172) 195 = .ok (.invokevirtual 262, 3) := by decide +kernel
theorem d172_198 : decode (zB 172) 198 = .ok (.aload_n 0, 1) := by decide +kernel
theorem d172_199 : decode (zB 172) 199 = .ok (.aload_n 0, 1) := by decide +kernel
theorem d172_200 : decode (zB 172) 200 = .ok (.invokevirtual 195, 3) := by decide +kernel
theorem d172_203 : decode (zB 172) 203 = .ok (.bipush 38, 2) := by decide +kernel
theorem d172_205 : decode (zB 172) 205 = .ok (.if_icmp .ne 8, 3) := by decide +kernel
theorem d172_208 : decode (zB 172) 208 = .ok (.bipush 11, 2) := by decide +kernel
theorem d172_210 : decode (zB 172) 210 = .ok (.goto 5, 3) := by decide +kernel
theorem d172_213 : decode (zB 172) 213 = .ok (.bipush 12, 2) := by decide +kernel
theorem d172_215 : decode (zB 172) 215 = .ok (.invokevirtual 265, 3) := by decide +kernel
theorem d172_218 : decode (zB 172) 218 = .ok (.goto (-178), 3) := by decide +kernel
theorem d173_0 : decode (zB 173) 0 = .ok (.aload_n 0, 1) := by decide +kernel
theorem d173_1 : decode (zB 173) 1 = .ok (.invokevirtual 195, 3) := by decide +kernel
theorem d173_4 : decode (zB 173) 4 = .ok (.istore_n 1, 1) := by decide +kernel
theorem d173_5 : decode (zB 173) 5 = .ok (.iload_n 1, 1) := by decide +kernel
theorem d173_6 : decode (zB 173) 6 = .ok (.bipush 104, 2) := by decide +kernel
theorem d173_8 : decode (zB 173) 8 = .ok (.if_icmp .eq 25, 3) := by decide +kernel
theorem d173_11 : decode (zB 173) 11 = .ok (.iload_n 1, 1) := by decide +kernel
theorem d173_12 : decode (zB 173) 12 = .ok (.bipush 116, 2) := by decide +kernel
theorem d173_14 : decode (zB 173) 14 = .ok (.if_icmp .eq 19, 3) := by decide +kernel
theorem d173_17 : decode (zB 173) 17 = .ok (.iload_n 1, 1) := by decide +kernel
theorem d173_18 : decode (zB 173) 18 = .ok (.bipush 122, 2) := by decide +kernel
theorem d173_20 : decode (zB 173) 20 = .ok (.if_icmp .eq 13, 3) := by decide +kernel
theorem d173_23 : decode (zB 173) 23 = .ok (.aload_n 0, 1) := by decide +kernel
theorem d173_24 : decode (zB 173) 24 = .ok (.iconst 1, 1) := by decide +kernel
theorem d173_25 : decode (zB 173) 25 = .ok (.aload_n 0, 1) := by decide +kernel
theorem d173_26 : decode (zB 173) 26 = .ok (.getfield 189, 3) := by decide +kernel
theorem d173_29 : decode (zB 173) 29 = .ok (.invokevirtual 202, 3) := by decide +kernel
theorem d173_32 : decode (zB 173) 32 = .ok (.ireturn, 1) := by decide +kernel
theorem d173_33 : decode (zB 173) 33 = .ok (.aload_n 0, 1) := by decide +kernel
theorem d173_34 : decode (zB 173) 34 = .ok (.getfield 268, 3) := by decide +kernel
theorem d173_37 : decode (zB 173) 37 = .ok (.bipush 14, 2) := by decide +kernel
theorem d173_39 : decode (zB 173) 39 = .ok (.if_icmp .ne 13, 3) := by decide +kernel
theorem d173_42 : decode (zB 173) 42 = .ok (.aload_n 0, 1) := by decide +kernel
theorem d173_43 : decode (zB 173) 43 = .ok (.iconst 4, 1) := by decide +kernel
theorem d173_44 : decode (zB 173) 44 = .ok (.aload_n 0, 1) := by decide +kernel
theorem d173_45 : decode (zB 173) 45 = .ok (.getfield 189, 3) := by decide +kernel
theorem d173_48 : decode (zB 173) 48 = .ok (.invokevirtual 202, 3) := by decide +kernel
theorem d173_51 : decode (zB 173) 51 = .ok (.ireturn, 1) := by decide +kernel
theorem d173_52 : decode (zB 173) 52 = .ok (.aload_n 0, 1) := by decide +kernel
theorem d173_53 : decode (zB 173) 53 = .ok (.getfield 38, 3) := by decide +kernel
theorem d173_56 : decode (zB 173) 56 = .ok (.aload_n 0, 1) := by decide +kernel
theorem d173_57 : decode (zB 173) 57 = .ok (.getfield 268, 3) := by decide +kernel
theorem d173_60 : decode (zB 173) 60 = .ok (.iload_n 1, 1) := by decide +kernel
theorem d173_61 : decode (zB 173) 61 = .ok (.iastore, 1) := by decide +kernel
theorem d173_62 : decode (zB 173) 62 = .ok (.aload_n 0, 1) := by decide +kernel
theorem d173_63 : decode (zB 173) 63 = .ok (.aload_n 0, 1) := by decide +kernel
theorem d173_64 : decode (zB 173) 64 = .ok (.getfield 189, 3) := by decide +kernel
theorem d173_67 : decode (zB 173) 67 = .ok (.iconst 1, 1) := by decide +kernel
theorem d173_68 : decode (zB 173) 68 = .ok (.iadd, 1) := by decide +kernel
theorem d173_69 : decode (zB 173) 69 = .ok (.putfield 189, 3) := by decide +kernel
theorem d173_72 : decode (zB 173) 72 = .ok (.aload_n 0, 1) := by decide +kernel
theorem d173_73 : decode (zB 173) 73 = .ok (.getfield 41, 3) := by decide +kernel
theorem d173_76 : decode (zB 173) 76 = .ok (.aload_n 0, 1) := by decide +kernel
theorem d173_77 : decode (zB 173) 77 = .ok (.getfield 268, 3) := by decide +kernel
theorem d173_80 : decode (zB 173) 80 = .ok (.aload_n 0, 1) := by decide +kernel
theorem d173_81 : decode (zB 173) 81 = .ok (.getfield 213, 3) := by decide +kernel
theorem d173_84 : decode (zB 173) 84 = .ok (.iastore, 1) := by decide +kernel
theorem d173_85 : decode (zB 173) 85 = .ok (.aload_n 0, 1) := by decide +kernel
theorem d173_86 : decode (zB 173) 86 = .ok (.iconst 0, 1) := by decide +kernel
theorem d173_87 : decode (zB 173) 87 = .ok (.putfield 217, 3) := by decide +kernel
theorem d173_90 : decode (zB 173) 90 = .ok (.aload_n 0, 1) := by decide +kernel
theorem d173_91 : decode (zB 173) 91 = .ok (.iconst 0, 1) := by decide +kernel
theorem d173_92 : decode (zB 173) 92 = .ok (.putfield 220, 3) := by decide +kernel
theorem d173_95 : decode (zB 173) 95 = .ok (.iload_n 1, 1) := by decide +kernel
theorem d173_96 : decode (zB 173) 96 = .ok (.bipush 122, 2) := by decide +kernel
theorem d173_98 : decode (zB 173) 98 = .ok (.if_icmp .eq 12, 3) := by decide +kernel
theorem d173_101 : decode (zB 173) 101 = .ok (.aload_n 0, 1) := by decide +kernel
theorem d173_102 : decode (zB 173) 102 = .ok (.invokevirtual 253, 3) := by decide +kernel
theorem d173_105 : decode (zB 173) 105 = .ok (.ifCond .ne 5, 3) := by decide +kernel
theorem d173_108 : decode (zB 173) 108 = .ok (.iconst 0, 1) := by decide +kernel
theorem d173_109 : decode (zB 173) 109 = .ok (.ireturn, 1) := by decide +kernel
theorem d173_110 : decode (zB 173) 110 = .ok (.aload_n 0, 1) := by decide +kernel
theorem d173_111 : decode (zB 173) 111 = .ok (.getfield 44, 3) := by decide +kernel
theorem d173_114 : decode (zB 173) 114 = .ok (.aload_n 0, 1) := by decide +kernel
theorem d173_115 : decode (zB 173) 115 = .ok (.getfield 268, 3) := by decide +kernel
theorem d173_118 : decode (zB 173) 118 = .ok (.aload_n 0, 1) := by decide +kernel
theorem d173_119 : decode (zB 173) 119 = .ok (.getfield 213, 3) := by decide +kernel
theorem d173_122 : decode (zB 173) 122 = .ok (.iastore, 1) := by decide +kernel
theorem d173_123 : decode (zB 173) 123 = .ok (.aload_n 0, 1) := by decide +kernel
theorem d173_124 : decode (zB 173) 124 = .ok (.invokevirtual 271, 3) := by decide +kernel
theorem d173_127 : decode (zB 173) 127 = .ok (.ifCond .ne 5, 3) := by decide +kernel
theorem d173_130 : decode (zB 173) 130 = .ok (.iconst 0, 1) := by decide +kernel
theorem d173_131 : decode (zB 173) 131 = .ok (.ireturn, 1) := by decide +kernel
theorem d173_132 : decode (zB 173) 132 = .ok (.aload_n 0, 1) := by decide +kernel
theorem d173_133 : decode (zB 173) 133 = .ok (.getfield 47, 3) := by decide +kernel
theorem d173_136 : decode (zB 173) 136 = .ok (.aload_n 0, 1) := by decide +kernel
theorem d173_137 : decode (zB 173) 137 = .ok (.getfield 268, 3) := by decide +kernel
theorem d173_140 : decode (zB 173) 140 = .ok (.aload_n 0, 1) := by decide +kernel
theorem d173_141 : decode (zB 173) 141 = .ok (.getfield 213, 3) := by decide +kernel
theorem d173_144 : decode (zB 173) 144 = .ok (.iastore, 1) := by decide +kernel
theorem d173_145 : decode (zB 173) 145 = .ok (.aload_n 0, 1) := by decide +kernel
theorem d173_146 : decode (zB 173) 146 = .ok (.aload_n 0, 1) := by decide +kernel
theorem d173_147 : decode (zB 173) 147 = .ok (.getfield 268, 3) := by decide +kernel
theorem d173_150 : decode (zB 173) 150 = .ok (.iconst 1, 1) := by decide +kernel
theorem d173_151 : decode (zB 173) 151 = .ok (.iadd, 1) := by decide +kernel
theorem d173_152 : decode (zB 173) 152 = .ok (.putfield 268, 3) := by decide +kernel
theorem d173_155 : decode (zB 173) 155 = .ok (.iconst 1, 1) := by decide +kernel
theorem d173_156 : decode (zB 173) 156 = .ok (.ireturn, 1) := by decide +kernel
theorem d174_0 : decode (zB 174) 0 = .ok (.iload_n 1, 1) := by decide +kernel
theorem d174_1 : decode (zB 174) 1 = .ok (.iconst 1, 1) := by decide +kernel
theorem d174_2 : decode (zB 174) 2 = .ok (.sipush 200, 3) := by decide +kernel
theorem d174_5 : decode (zB 174) 5 = .ok (.invokestatic 169, 3) := by decide +kernel
theorem d174_8 : decode (zB 174) 8 = .ok (.ifCond .eq 11, 3) := by decide +kernel
theorem d174_11 : decode (zB 174) 11 = .ok (.iload_n 1, 1) := by decide +kernel
theorem d174_12 : decode (zB 174) 12 = .ok (.aload_n 0, 1) := by decide +kernel
theorem d174_13 : decode (zB 174) 13 = .ok (.getfield 183, 3) := by decide +kernel
theorem d174_16 : decode (zB 174) 16 = .ok (.if_icmp .le 5, 3) := by decide +kernel
theorem d174_19 : decode (zB 174) 19 = .ok (.iconst (-1), 1) := by decide +kernel
theorem d174_20 : decode (zB 174) 20 = .ok (.ireturn, 1) := by decide +kernel
theorem d174_21 : decode (zB 174) 21 = .ok (.aload_n 0, 1) := by decide +kernel
theorem d174_22 : decode (zB 174) 22 = .ok (.iconst 0, 1) := by decide +kernel
theorem d174_23 : decode (zB 174) 23 = .ok (.putfield 189, 3) := by decide +kernel
theorem d174_26 : decode (zB 174) 26 = .ok (.aload_n 0, 1) := by decide +kernel
theorem d174_27 : decode (zB 174) 27 = .ok (.iload_n 1, 1) := by decide +kernel
theorem d174_28 : decode (zB 174) 28 = .ok (.putfield 192, 3) := by decide +kernel
theorem d174_31 : decode (zB 174) 31 = .ok (.aload_n 0, 1) := by decide +kernel
theorem d174_32 : decode (zB 174) 32 = .ok (.iconst 0, 1) := by decide +kernel
theorem d174_33 : decode (zB 174) 33 = .ok (.putfield 213, 3) := by decide +kernel
theorem d174_36 : decode (zB 174) 36 = .ok (.aload_n 0, 1) := by decide +kernel
theorem d174_37 : decode (zB 174) 37 = .ok (.iconst 0, 1) := by decide +kernel
theorem d174_38 : decode (zB 174) 38 = .ok (.putfield 268, 3) := by decide +kernel
theorem d174_41 : decode (zB 174) 41 = .ok (.aload_n 0, 1) := by decide +kernel
theorem d174_42 : decode (zB 174) 42 = .ok (.invokevirtual 274, 3) := by decide +kernel
theorem d174_45 : decode (zB 174) 45 = .ok (.istore_n 2, 1) := by decide +kernel
theorem d174_46 : decode (zB 174) 46 = .ok (.iload_n 2, 1) := by decide +kernel
theorem d174_47 : decode (zB 174) 47 = .ok (.ifCond .eq 39, 3) := by decide +kernel
theorem d174_50 : decode (zB 174) 50 = .ok (.aload_n 0, 1) := by decide +kernel
theorem d174_51 : decode (zB 174) 51 = .ok (.getfield 189, 3) := by decide +kernel
theorem d174_54 : decode (zB 174) 54 = .ok (.aload_n 0, 1) := by decide +kernel
theorem d174_55 : decode (zB 174) 55 = .ok (.getfield 192, 3) := by decide +kernel
theorem d174_58 : decode (zB 174) 58 = .ok (.if_icmp .ge 28, 3) := by decide +kernel
theorem d174_61 : decode (zB 174) 61 = .ok (.aload_n 0, 1) := by decide +kernel
theorem d174_62 : decode (zB 174) 62 = .ok (.bipush 59, 2) := by decide +kernel
theorem d174_64 : decode (zB 174) 64 = .ok (.invokevirtual 277, 3) := by decide +kernel
theorem d174_67 : decode (zB 174) 67 = .ok (.ifCond .eq 14, 3) := by decide +kernel
theorem d174_70 : decode (zB 174) 70 = .ok (.aload_n 0, 1) := by decide +kernel
theorem d174_71 : decode (zB 174) 71 = .ok (.invokevirtual 274, 3) := by decide +kernel
theorem d174_74 : decode (zB 174) 74 = .ok (.ifCond .eq 7, 3) := by decide +kernel
theorem d174_77 : decode (zB 174) 77 = .ok (.iconst 1, 1) := by decide +kernel
theorem d174_78 : decode (zB 174) 78 = .ok (.goto 4, 3) := by decide +kernel
theorem d174_81 : decode (zB 174) 81 = .ok (.iconst 0, 1) := by decide +kernel
theorem d174_82 : decode (zB 174) 82 = .ok (.istore_n 2, 1) := by decide +kernel
theorem d174_83 : decode (zB 174) 83 = .ok (.goto (-37), 3) := by decide +kernel
theorem d174_86 : decode (zB 174) 86 = .ok (.aload_n 0, 1) := by decide +kernel
theorem d174_87 : decode (zB 174) 87 = .ok (.iconst 0, 1) := by decide +kernel
theorem d174_88 : decode (zB 174) 88 = .ok (.putfield 183, 3) := by decide +kernel
theorem d174_91 : decode (zB 174) 91 = .ok (.iload_n 2, 1) := by decide +kernel
theorem d174_92 : decode (zB 174) 92 = .ok (.ifCond .ne 8, 3) := by decide +kernel
theorem d174_95 : decode (zB 174) 95 = .ok (.aload_n 0, 1) := by decide +kernel
theorem d174_96 : decode (zB 174) 96 = .ok (.getfield 199, 3) := by decide +kernel
theorem d174_99 : decode (zB 174) 99 = .ok (.ireturn, 1) := by decide +kernel
theorem d174_100 : decode (zB 174) 100 = .ok (.aload_n 0, 1) := by decide +kernel
theorem d174_101 : decode (zB 174) 101 = .ok (.aload_n 0, 1) := by decide +kernel
theorem d174_102 : decode (zB 174) 102 = .ok (.getfield 268, 3) := by decide +kernel
theorem d174_105 : decode (zB 174) 105 = .ok (.putfield 280, 3) := by decide +kernel
theorem d174_108 : decode (zB 174) 108 = .ok (.iconst 0, 1) := by decide +kernel
theorem d174_109 : decode (zB 174) 109 = .ok (.istore_n 3, 1) := by decide +kernel
theorem d174_110 : decode (zB 174) 110 = .ok (.iload_n 3, 1) := by decide +kernel
theorem d174_111 : decode (zB 174) 111 = .ok (.aload_n 0, 1) := by decide +kernel
theorem d174_112 : decode (zB 174) 112 = .ok (.getfield 213, 3) := by decide +kernel
theorem d174_115 : decode (zB 174) 115 = .ok (.if_icmp .ge 21, 3) := by decide +kernel
theorem d174_118 : decode (zB 174) 118 = .ok (.aload_n 0, 1) := by decide +kernel
theorem d174_119 : decode (zB 174) 119 = .ok (.getfield 50, 3) := by decide +kernel
theorem d174_122 : decode (zB 174) 122 = .ok (.iload_n 3, 1) := by decide +kernel
theorem d174_123 : decode (zB 174) 123 = .ok (.aload_n 0, 1) := by decide +kernel
theorem d174_124 : decode (zB 174) 124 = .ok (.getfield 32, 3) := by decide +kernel
theorem d174_127 : decode (zB 174) 127 = .ok (.iload_n 3, 1) := by decide +kernel
theorem d174_128 : decode (zB 174) 128 = .ok (.iaload, 1) := by decide +kernel
theorem d174_129 : decode (zB 174) 129 = .ok (.iastore, 1) := by decide +kernel
theorem d174_130 : decode (zB 174) 130 = .ok (.iinc 3 1, 3) := by decide +kernel
theorem d174_133 : decode (zB 174) 133 = .ok (.goto (-23), 3) := by decide +kernel
theorem d174_136 : decode (zB 174) 136 = .ok (.iconst 0, 1) := by decide +kernel
theorem d174_137 : decode (zB 174) 137 = .ok (.istore_n 3, 1) := by decide +kernel
theorem d174_138 : decode (zB 174) 138 = .ok (.iload_n 3, 1) := by decide +kernel
theorem d174_139 : decode (zB 174) 139 = .ok (.aload_n 0, 1) := by decide +kernel
theorem d174_140 : decode (zB 174) 140 = .ok (.getfield 268, 3) := by decide +kernel
theorem d174_143 : decode (zB 174) 143 = .ok (.if_icmp .ge 57, 3) := by decide +kernel
theorem d174_146 : decode (zB 174) 146 = .ok (.aload_n 0, 1) := by decide +kernel
theorem d174_147 : decode (zB 174) 147 = .ok (.getfield 53, 3) := by decide +kernel
theorem d174_150 : decode (zB 174) 150 = .ok (.iload_n 3, 1) := by decide +kernel
theorem d174_151 : decode (zB 174) 151 = .ok (.aload_n 0, 1) := by decide +kernel
theorem d174_152 : decode (zB 174) 152 = .ok (.getfield 38, 3) := by decide +kernel
theorem d174_155 : decode (zB 174) 155 = .ok (.iload_n 3, 1) := by decide +kernel
theorem d174_156 : decode (zB 174) 156 = .ok (.iaload, 1) := by decide +kernel
theorem d174_157 : decode (zB 174) 157 = .ok (.iastore, 1) := by decide +kernel
theorem d174_158 : decode (zB 174) 158 = .ok (.aload_n 0, 1) := by decide +kernel
theorem d174_159 : decode (zB 174) 159 = .ok (.getfield 56, 3) := by decide +kernel
theorem d174_162 : decode (zB 174) 162 = .ok (.iload_n 3, 1) := by decide +kernel
theorem d174_163 : decode (zB 174) 163 = .ok (.aload_n 0, 1) := by decide +kernel
theorem d174_164 : decode (zB 174) 164 = .ok (.getfield 41, 3) := by decide +kernel
theorem d174_167 : decode (zB 174) 167 = .ok (.iload_n 3, 1) := by decide +kernel
theorem d174_168 : decode (zB 174) 168 = .ok (.iaload, 1) := by decide +kernel
theorem d174_169 : decode (zB 174) 169 = .ok (.iastore, 1) := by decide +kernel
theorem d174_170 : decode (zB 174) 170 = .ok (.aload_n 0, 1) := by decide +kernel
theorem d174_171 : decode (zB 174) 171 = .ok (.getfield 59, 3) := by decide +kernel
theorem d174_174 : decode (zB 174) 174 = .ok (.iload_n 3, 1) := by decide +kernel
theorem d174_175 : decode (zB 174) 175 = .ok (.aload_n 0, 1) := by decide +kernel
theorem d174_176 : decode (zB 174) 176 = .ok (.getfield 44, 3) := by decide +kernel
theorem d174_179 : decode (zB 174) 179 = .ok (.iload_n 3, 1) := by decide +kernel
theorem d174_180 : decode (zB 174) 180 = .ok (.iaload, 1) := by decide +kernel
theorem d174_181 : decode (zB 174) 181 = .ok (.iastore, 1) := by decide +kernel
theorem d174_182 : decode (zB 174) 182 = .ok (.aload_n 0, 1) := by decide +kernel
theorem d174_183 : decode (zB 174) 183 = .ok (.getfield 62, 3) := by decide +kernel
theorem d174_186 : decode (zB 174) 186 = .ok (.iload_n 3, 1) := by decide +kernel
theorem d174_187 : decode (zB 174) 187 = .ok (.aload_n 0, 1) := by decide +kernel
theorem d174_188 : decode (zB 174) 188 = .ok (.getfield 47, 3) := by decide +kernel
theorem d174_191 : decode (zB 174) 191 = .ok (.iload_n 3, 1) := by decide +kernel
theorem d174_192 : decode (zB 174) 192 = .ok (.iaload, 1) := by decide +kernel
theorem d174_193 : decode (zB 174) 193 = .ok (.iastore, 1) := by decide +kernel
theorem d174_194 : decode (zB 174) 194 = .ok (.iinc 3 1, 3) := by decide +kernel
theorem d174_197 : decode (zB 174) 197 = .ok (.goto (-59), 3) := by decide +kernel
theorem d174_200 : decode (zB 174) 200 = .ok (.aload_n 0, 1) := by decide +kernel
theorem d174_201 : decode (zB 174) 201 = .ok (.getfield 268, 3) := by decide +kernel
theorem d174_204 : decode (zB 174) 204 = .ok (.ireturn, 1) := by decide +kernel
theorem d175_0 : decode (zB 175) 0 = .ok (.iload_n 0, 1) := by decide +kernel
theorem d175_1 : decode (zB 175) 1 = .ok (.tableswitch 85 2 8 #[43, 47, 51, 55, 59, 63, 74], 43) := by decide +kernel
theorem d175_44 : decode (zB 175) 44 = .ok (.iload_n 1, 1) := by decide +kernel
theorem d175_45 : decode (zB 175) 45 = .ok (.iload_n 2, 1) := by decide +kernel
theorem d175_46 : decode (zB 175) 46 = .ok (.iadd, 1) := by decide +kernel
theorem d175_47 : decode (zB 175) 47 = .ok (.ireturn, 1) := by decide +kernel
theorem d175_48 : decode (zB 175) 48 = .ok (.iload_n 1, 1) := by decide +kernel
theorem d175_49 : decode (zB 175) 49 = .ok (.iload_n 2, 1) := by decide +kernel
theorem d175_50 : decode (zB 175) 50 = .ok (.isub, 1) := by decide +kernel
theorem d175_51 : decode (zB 175) 51 = .ok (.ireturn, 1) := by decide +kernel
theorem d175_52 : decode (zB 175) 52 = .ok (.iload_n 1, 1) := by decide +kernel
theorem d175_53 : decode (zB 175) 53 = .ok (.iload_n 2, 1) := by decide +kernel
theorem d175_54 : decode (zB 175) 54 = .ok (.imul, 1) := by decide +kernel
theorem d175_55 : decode (zB 175) 55 = .ok (.ireturn, 1) := by decide +kernel
theorem d175_56 : decode (zB 175) 56 = .ok (.iload_n 1, 1) := by decide +kernel
theorem d175_57 : decode (zB 175) 57 = .ok (.iload_n 2, 1) := by decide +kernel
theorem d175_58 : decode (zB 175) 58 = .ok (.idiv, 1) := by decide +kernel
theorem d175_59 : decode (zB 175) 59 = .ok (.ireturn, 1) := by decide +kernel
theorem d175_60 : decode (zB 175) 60 = .ok (.iload_n 1, 1) := by decide +kernel
theorem d175_61 : decode (zB 175) 61 = .ok (.iload_n 2, 1) := by decide +kernel
theorem d175_62 : decode (zB 175) 62 = .ok (.irem, 1) := by decide +kernel
theorem d175_63 : decode (zB 175) 63 = .ok (.ireturn, 1) := by decide +kernel
theorem d175_64 : decode (zB 175) 64 = .ok (.iload_n 1, 1) := by decide +kernel
theorem d175_65 : decode (zB 175) 65 = .ok (.iload_n 2, 1) := by decide +kernel
theorem d175_66 : decode (zB 175) 66 = .ok (.if_icmp .ge 7, 3) := by decide +kernel
theorem d175_69 : decode (zB 175) 69 = .ok (.iconst 1, 1) := by decide +kernel
theorem d175_70 : decode (zB 175) 70 = .ok (.goto 4, 3) := by decide +kernel
theorem d175_73 : decode (zB 175) 73 = .ok (.iconst 0, 1) := by decide +kernel
theorem d175_74 : decode (zB 175) 74 = .ok (.ireturn, 1) := by decide +kernel
theorem d175_75 : decode (zB 175) 75 = .ok (.iload_n 1, 1) := by decide +kernel
theorem d175_76 : decode (zB 175) 76 = .ok (.iload_n 2, 1) := by decide +kernel
theorem d175_77 : decode (zB 175) 77 = .ok (.if_icmp .le 7, 3) := by decide +kernel
theorem d175_80 : decode (zB 175) 80 = .ok (.iconst 1, 1) := by decide +kernel
theorem d175_81 : decode (zB 175) 81 = .ok (.goto 4, 3) := by decide +kernel
theorem d175_84 : decode (zB 175) 84 = .ok (.iconst 0, 1) := by decide +kernel
theorem d175_85 : decode (zB 175) 85 = .ok (.ireturn, 1) := by decide +kernel
theorem d175_86 : decode (zB 175) 86 = .ok (.iload_n 1, 1) := by decide +kernel
theorem d175_87 : decode (zB 175) 87 = .ok (.iload_n 2, 1) := by decide +kernel
theorem d175_88 : decode (zB 175) 88 = .ok (.if_icmp .ne 7, 3) := by decide +kernel
theorem d175_91 : decode (zB 175) 91 = .ok (.iconst 1, 1) := by decide +kernel
theorem d175_92 : decode (zB 175) 92 = .ok (.goto 4, 3) := by decide +kernel
theorem d175_95 : decode (zB 175) 95 = .ok (.iconst 0, 1) := by decide +kernel
theorem d175_96 : decode (zB 175) 96 = .ok (.ireturn, 1) := by decide +kernel
theorem d176_0 : decode (zB 176) 0 = .ok (.iconst 0, 1) := by decide +kernel
theorem d176_1 : decode (zB 176) 1 = .ok (.istore_n 3, 1) := by decide +kernel
theorem d176_2 : decode (zB 176) 2 = .ok (.sipush 220, 3) := by decide +kernel
theorem d176_5 : decode (zB 176) 5 = .ok (.iload_n 1, 1) := by decide +kernel
theorem d176_6 : decode (zB 176) 6 = .ok (.sipush 220, 3) := by decide +kernel
theorem d176_9 : decode (zB 176) 9 = .ok (.idiv, 1) := by decide +kernel
theorem d176_10 : decode (zB 176) 10 = .ok (.imul, 1) := by decide +kernel
theorem d176_11 : decode (zB 176) 11 = .ok (.istore 4, 2) := by decide +kernel
theorem d176_13 : decode (zB 176) 13 = .ok (.iload_n 1, 1) := by decide +kernel
theorem d176_14 : decode (zB 176) 14 = .ok (.istore 5, 2) := by decide +kernel
theorem d176_16 : decode (zB 176) 16 = .ok (.iload 5, 2) := by decide +kernel
theorem d176_18 : decode (zB 176) 18 = .ok (.iload_n 2, 1) := by decide +kernel
theorem d176_19 : decode (zB 176) 19 = .ok (.if_icmp .ge 214, 3) := by decide +kernel
theorem d176_22 : decode (zB 176) 22 = .ok (.aload_n 0, 1) := by decide +kernel
theorem d176_23 : decode (zB 176) 23 = .ok (.getfield 50, 3) := by decide +kernel
theorem d176_26 : decode (zB 176) 26 = .ok (.iload 5, 2) := by decide +kernel
theorem d176_28 : decode (zB 176) 28 = .ok (.iaload, 1) := by decide +kernel
theorem d176_29 : decode (zB 176) 29 = .ok (.ldc 216, 2) := by decide +kernel
theorem d176_31 : decode (zB 176) 31 = .ok (.idiv, 1) := by decide +kernel
theorem d176_32 : decode (zB 176) 32 = .ok (.istore 6, 2) := by decide +kernel
theorem d176_34 : decode (zB 176) 34 = .ok (.aload_n 0, 1) := by decide +kernel
theorem d176_35 : decode (zB 176) 35 = .ok (.getfield 50, 3) := by decide +kernel
theorem d176_38 : decode (zB 176) 38 = .ok (.iload 5, 2) := by decide +kernel
theorem d176_40 : decode (zB 176) 40 = .ok (.iaload, 1) := by decide +kernel
theorem d176_41 : decode (zB 176) 41 = .ok (.ldc 216, 2) := by decide +kernel
theorem d176_43 : decode (zB 176) 43 = .ok (.irem, 1) := by decide +kernel
theorem d176_44 : decode (zB 176) 44 = .ok (.istore 7, 2) := by decide +kernel
theorem d176_46 : decode (zB 176) 46 = .ok (.iload 5, 2) := by decide +kernel
theorem d176_48 : decode (zB 176) 48 = .ok (.iconst 1, 1) := by decide +kernel
theorem d176_49 : decode (zB 176) 49 = .ok (.iadd, 1) := by decide +kernel
theorem d176_50 : decode (zB 176) 50 = .ok (.istore 5, 2) := by decide +kernel
theorem d176_52 : decode (zB 176) 52 = .ok (.iload 6, 2) := by decide +kernel
theorem d176_54 : decode (zB 176) 54 = .ok (.ifCond .eq 9, 3) := by decide +kernel
theorem d176_57 : decode (zB 176) 57 = .ok (.iload 6, 2) := by decide +kernel
theorem d176_59 : decode (zB 176) 59 = .ok (.iconst 1, 1) := by decide +kernel
theorem d176_60 : decode (zB 176) 60 = .ok (.if_icmp .ne 33, 3) := by decide +kernel
theorem d176_63 : decode (zB 176) 63 = .ok (.aload_n 0, 1) := by decide +kernel
theorem d176_64 : decode (zB 176) 64 = .ok (.getfield 65, 3) := by decide +kernel
theorem d176_67 : decode (zB 176) 67 = .ok (.iload_n 3, 1) := by decide +kernel
theorem d176_68 : decode (zB 176) 68 = .ok (.iload 6, 2) := by decide +kernel
theorem d176_70 : decode (zB 176) 70 = .ok (.ifCond .ne 8, 3) := by decide +kernel
theorem d176_73 : decode (zB 176) 73 = .ok (.iload 7, 2) := by decide +kernel
theorem d176_75 : decode (zB 176) 75 = .ok (.goto 10, 3) := by decide +kernel
theorem d176_78 : decode (zB 176) 78 = .ok (.aload_n 0, 1) := by decide +kernel
theorem d176_79 : decode (zB 176) 79 = .ok (.getfield 68, 3) := by decide +kernel
theorem d176_82 : decode (zB 176) 82 = .ok (.iload 7, 2) := by decide +kernel
theorem d176_84 : decode (zB 176) 84 = .ok (.iaload, 1) := by decide +kernel
theorem d176_85 : decode (zB 176) 85 = .ok (.iastore, 1) := by decide +kernel
theorem d176_86 : decode (zB 176) 86 = .ok (.iload_n 3, 1) := by decide +kernel
theorem d176_87 : decode (zB 176) 87 = .ok (.iconst 1, 1) := by decide +kernel
theorem d176_88 : decode (zB 176) 88 = .ok (.iadd, 1) := by decide +kernel
theorem d176_89 : decode (zB 176) 89 = .ok (.istore_n 3, 1) := by decide +kernel
theorem d176_90 : decode (zB 176) 90 = .ok (.goto 140, 3) := by decide +kernel
theorem d176_93 : decode (zB 176) 93 = .ok (.iload 6, 2) := by decide +kernel
theorem d176_95 : decode (zB 176) 95 = .ok (.bipush 10, 2) := by decide +kernel
theorem d176_97 : decode (zB 176) 97 = .ok (.if_icmp .ne 24, 3) := by decide +kernel
theorem d176_100 : decode (zB 176) 100 = .ok (.aload_n 0, 1) := by decide +kernel
theorem d176_101 : decode (zB 176) 101 = .ok (.getfield 65, 3) := by decide +kernel
theorem d176_104 : decode (zB 176) 104 = .ok (.iload_n 3, 1) := by decide +kernel
theorem d176_105 : decode (zB 176) 105 = .ok (.iconst 1, 1) := by decide +kernel
theorem d176_106 : decode (zB 176) 106 = .ok (.isub, 1) := by decide +kernel
theorem d176_107 : decode (zB 176) 107 = .ok (.iconst 1, 1) := by decide +kernel
theorem d176_108 : decode (zB 176) 108 = .ok (.aload_n 0, 1) := by decide +kernel
theorem d176_109 : decode (zB 176) 109 = .ok (.getfield 65, 3) := by decide +kernel
theorem d176_112 : decode (zB 176) 112 = .ok (.iload_n 3, 1) := by decide +kernel
theorem d176_113 : decode (zB 176) 113 = .ok (.iconst 1, 1) := by decide +kernel
theorem d176_114 : decode (zB 176) 114 = .ok (.isub, 1) := by decide +kernel
theorem d176_115 : decode (zB 176) 115 = .ok (.iaload, 1) := by decide +kernel
theorem d176_116 : decode (zB 176) 116 = .ok (.isub, 1) := by decide +kernel
theorem d176_117 : decode (zB 176) 117 = .ok (.iastore, 1) := by decide +kernel
theorem d176_118 : decode (zB 176) 118 = .ok (.goto 112, 3) := by decide +kernel
theorem d176_121 : decode (zB 176) 121 = .ok (.iload 6, 2) := by decide +kernel
theorem d176_123 : decode (zB 176) 123 = .ok (.bipush 11, 2) := by decide +kernel
theorem d176_125 : decode (zB 176) 125 = .ok (.if_icmp .eq 10, 3) := by decide +kernel
theorem d176_128 : decode (zB 176) 128 = .ok (.iload 6, 2) := by decide +kernel
theorem d176_130 : decode (zB 176) 130 = .ok (.bipush 12, 2) := by decide +kernel
theorem d176_132 : decode (zB 176) 132 = .ok (.if_icmp .ne 43, 3) := by decide +kernel
theorem d176_135 : decode (zB 176) 135 = .ok (.aload_n 0, 1) := by decide +kernel
theorem d176_136 : decode (zB 176) 136 = .ok (.getfield 65, 3) := by decide +kernel
theorem d176_139 : decode (zB 176) 139 = .ok (.iload_n 3, 1) := by decide +kernel
theorem d176_140 : decode (zB 176) 140 = .ok (.iconst 1, 1) := by decide +kernel
theorem d176_141 : decode (zB 176) 141 = .ok (.isub, 1) := by decide +kernel
theorem d176_142 : decode (zB 176) 142 = .ok (.iaload, 1) := by decide +kernel
theorem d176_143 : decode (zB 176) 143 = .ok (.iload 6, 2) := by decide +kernel
theorem d176_145 : decode (zB 176) 145 = .ok (.bipush 12, 2) := by decide +kernel
theorem d176_147 : decode (zB 176) 147 = .ok (.if_icmp .ne 7, 3) := by decide +kernel
theorem d176_150 : decode (zB 176) 150 = .ok (.iconst 1, 1) := by decide +kernel
theorem d176_151 : decode (zB 176) 151 = .ok (.goto 4, 3) := by decide +kernel
theorem d176_154 : decode (zB 176) 154 = .ok (.iconst 0, 1) := by decide +kernel
theorem d176_155 : decode (zB 176) 155 = .ok (.if_icmp .ne 13, 3) := by decide +kernel
theorem d176_158 : decode (zB 176) 158 = .ok (.iload 4, 2) := by decide +kernel
theorem d176_160 : decode (zB 176) 160 = .ok (.iload 7, 2) := by decide +kernel
theorem d176_162 : decode (zB 176) 162 = .ok (.iadd, 1) := by decide +kernel
theorem d176_163 : decode (zB 176) 163 = .ok (.istore 5, 2) := by decide +kernel
theorem d176_165 : decode (zB 176) 165 = .ok (.goto 65, 3) := by decide +kernel
theorem d176_168 : decode (zB 176) 168 = .ok (.iload_n 3, 1) := by decide +kernel
theorem d176_169 : decode (zB 176) 169 = .ok (.iconst 1, 1) := by decide +kernel
theorem d176_170 : decode (zB 176) 170 = .ok (.isub, 1) := by decide +kernel
theorem d176_171 : decode (zB 176) 171 = .ok (.istore_n 3, 1) := by decide +kernel
theorem d176_172 : decode (zB 176) 172 = .ok (.goto 58, 3) := by decide +kernel
theorem d176_175 : decode (zB 176) 175 = .ok (.iload_n 3, 1) := by decide +kernel
theorem d176_176 : decode (zB 176) 176 = .ok (.iconst 1, 1) := by decide +kernel
theorem d176_177 : decode (zB 176) 177 = .ok (.isub, 1) := by decide +kernel
theorem d176_178 : decode (zB 176) 178 = .ok (.istore_n 3, 1) := by decide +kernel
theorem d176_179 : decode (zB 176) 179 = .ok (.iload 6, 2) := by decide +kernel
theorem d176_181 : decode (zB 176) 181 = .ok (.iconst 5, 1) := by decide +kernel
theorem d176_182 : decode (zB 176) 182 = .ok (.if_icmp .eq 10, 3) := by decide +kernel
theorem d176_185 : decode (zB 176) 185 = .ok (.iload 6, 2) := by decide +kernel
theorem d176_187 : decode (zB 176) 187 = .ok (.bipush 6, 2) := by decide +kernel
theorem d176_189 : decode (zB 176) 189 = .ok (.if_icmp .ne 14, 3) := by decide +kernel
theorem d176_192 : decode (zB 176) 192 = .ok (.aload_n 0, 1) := by decide +kernel
theorem d176_193 : decode (zB 176) 193 = .ok (.getfield 65, 3) := by decide +kernel
theorem d176_196 : decode (zB 176) 196 = .ok (.iload_n 3, 1) := by decide +kernel
theorem d176_197 : decode (zB 176) 197 = .ok (.iaload, 1) := by decide +kernel
theorem d176_198 : decode (zB 176) 198 = .ok (.ifCond .ne 5, 3) := by decide +kernel
theorem d176_201 : decode (zB 176) 201 = .ok (.iconst 0, 1) := by decide +kernel
theorem d176_202 : decode (zB 176) 202 = .ok (.ireturn, 1) := by decide +kernel
theorem d176_203 : decode (zB 176) 203 = .ok (.aload_n 0, 1) := by decide +kernel
theorem d176_204 : decode (zB 176) 204 = .ok (.getfield 65, 3) := by decide +kernel
theorem d176_207 : decode (zB 176) 207 = .ok (.iload_n 3, 1) := by decide +kernel
theorem d176_208 : decode (zB 176) 208 = .ok (.iconst 1, 1) := by decide +kernel
theorem d176_209 : decode (zB 176) 209 = .ok (.isub, 1) := by decide +kernel
theorem d176_210 : decode (zB 176) 210 = .ok (.iload 6, 2) := by decide +kernel
theorem d176_212 : decode (zB 176) 212 = .ok (.aload_n 0, 1) := by decide +kernel
theorem d176_213 : decode (zB 176) 213 = .ok (.getfield 65, 3) := by decide +kernel
theorem d176_216 : decode (zB 176) 216 = .ok (.iload_n 3, 1) := by decide +kernel
theorem d176_217 : decode (zB 176) 217 = .ok (.iconst 1, 1) := by decide +kernel
theorem d176_218 : decode (zB 176) 218 = .ok (.isub, 1) := by decide +kernel
theorem d176_219 : decode (zB 176) 219 = .ok (.iaload, 1) := by decide +kernel
theorem d176_220 : decode (zB 176) 220 = .ok (.aload_n 0, 1) := by decide +kernel
theorem d176_221 : decode (zB 176) 221 = .ok (.getfield 65, 3) := by decide +kernel
theorem d176_224 : decode (zB 176) 224 = .ok (.iload_n 3, 1) := by decide +kernel
theorem d176_225 : decode (zB 176) 225 = .ok (.iaload, 1) := by decide +kernel
theorem d176_226 : decode (zB 176) 226 = .ok (.invokestatic 283, 3) := by decide +kernel
theorem d176_229 : decode (zB 176) 229 = .ok (.iastore, 1) := by decide +kernel
theorem d176_230 : decode (zB 176) 230 = .ok (.goto (-214), 3) := by decide +kernel
theorem d176_233 : decode (zB 176) 233 = .ok (.aload_n 0, 1) := by decide +kernel
theorem d176_234 : decode (zB 176) 234 = .ok (.getfield 65, 3) := by decide +kernel
theorem d176_237 : decode (zB 176) 237 = .ok (.iconst 0, 1) := by decide +kernel
theorem d176_238 : decode (zB 176) 238 = .ok (.iaload, 1) := by decide +kernel
theorem d176_239 : decode (zB 176) 239 = .ok (.ireturn, 1) := by decide +kernel
theorem d177_0 : decode (zB 177) 0 = .ok (.iconst 0, 1) := by decide +kernel
theorem d177_1 : decode (zB 177) 1 = .ok (.istore_n 3, 1) := by decide +kernel
theorem d177_2 : decode (zB 177) 2 = .ok (.iload_n 3, 1) := by decide +kernel
theorem d177_3 : decode (zB 177) 3 = .ok (.aload_n 0, 1) := by decide +kernel
theorem d177_4 : decode (zB 177) 4 = .ok (.getfield 280, 3) := by decide +kernel
theorem d177_7 : decode (zB 177) 7 = .ok (.if_icmp .ge 82, 3) := by decide +kernel
theorem d177_10 : decode (zB 177) 10 = .ok (.aload_n 0, 1) := by decide +kernel
theorem d177_11 : decode (zB 177) 11 = .ok (.getfield 53, 3) := by decide +kernel
theorem d177_14 : decode (zB 177) 14 = .ok (.iload_n 3, 1) := by decide +kernel
theorem d177_15 : decode (zB 177) 15 = .ok (.iaload, 1) := by decide +kernel
theorem d177_16 : decode (zB 177) 16 = .ok (.iload_n 1, 1) := by decide +kernel
theorem d177_17 : decode (zB 177) 17 = .ok (.if_icmp .ne 66, 3) := by decide +kernel
theorem d177_20 : decode (zB 177) 20 = .ok (.aload_n 0, 1) := by decide +kernel
theorem d177_21 : decode (zB 177) 21 = .ok (.aload_n 0, 1) := by decide +kernel
theorem d177_22 : decode (zB 177) 22 = .ok (.getfield 59, 3) := by decide +kernel
theorem d177_25 : decode (zB 177) 25 = .ok (.iload_n 3, 1) := by decide +kernel
theorem d177_26 : decode (zB 177) 26 = .ok (.iaload, 1) := by decide +kernel
theorem d177_27 : decode (zB 177) 27 = .ok (.aload_n 0, 1) := by decide +kernel
theorem d177_28 : decode (zB 177) 28 = .ok (.getfield 62, 3) := by decide +kernel
theorem d177_31 : decode (zB 177) 31 = .ok (.iload_n 3, 1) := by decide +kernel
theorem d177_32 : decode (zB 177) 32 = .ok (.iaload, 1) := by decide +kernel
theorem d177_33 : decode (zB 177) 33 = .ok (.invokevirtual 287, 3) := by decide +kernel
theorem d177_36 : decode (zB 177) 36 = .ok (.iconst 1, 1) := by decide +kernel
theorem d177_37 : decode (zB 177) 37 = .ok (.if_icmp .eq 6, 3) := by decide +kernel
theorem d177_40 : decode (zB 177) 40 = .ok (.goto 43, 3) := by decide +kernel
theorem d177_43 : decode (zB 177) 43 = .ok (.aload_n 0, 1) := by decide +kernel
theorem d177_44 : decode (zB 177) 44 = .ok (.aload_n 0, 1) := by decide +kernel
theorem d177_45 : decode (zB 177) 45 = .ok (.getfield 56, 3) := by decide +kernel
theorem d177_48 : decode (zB 177) 48 = .ok (.iload_n 3, 1) := by decide +kernel
theorem d177_49 : decode (zB 177) 49 = .ok (.iaload, 1) := by decide +kernel
theorem d177_50 : decode (zB 177) 50 = .ok (.aload_n 0, 1) := by decide +kernel
theorem d177_51 : decode (zB 177) 51 = .ok (.getfield 59, 3) := by decide +kernel
theorem d177_54 : decode (zB 177) 54 = .ok (.iload_n 3, 1) := by decide +kernel
theorem d177_55 : decode (zB 177) 55 = .ok (.iaload, 1) := by decide +kernel
theorem d177_56 : decode (zB 177) 56 = .ok (.invokevirtual 287, 3) := by decide +kernel
theorem d177_59 : decode (zB 177) 59 = .ok (.istore 4, 2) := by decide +kernel
theorem d177_61 : decode (zB 177) 61 = .ok (.iload 4, 2) := by decide +kernel
theorem d177_63 : decode (zB 177) 63 = .ok (.ifCond .ge 7, 3) := by decide +kernel
theorem d177_66 : decode (zB 177) 66 = .ok (.iconst 0, 1) := by decide +kernel
theorem d177_67 : decode (zB 177) 67 = .ok (.goto 15, 3) := by decide +kernel
theorem d177_70 : decode (zB 177) 70 = .ok (.iload 4, 2) := by decide +kernel
theorem d177_72 : decode (zB 177) 72 = .ok (.iload_n 2, 1) := by decide +kernel
theorem d177_73 : decode (zB 177) 73 = .ok (.if_icmp .le 7, 3) := by decide +kernel
theorem d177_76 : decode (zB 177) 76 = .ok (.iload_n 2, 1) := by decide +kernel
theorem d177_77 : decode (zB 177) 77 = .ok (.goto 5, 3) := by decide +kernel
theorem d177_80 : decode (zB 177) 80 = .ok (.iload 4, 2) := by decide +kernel
theorem d177_82 : decode (zB 177) 82 = .ok (.ireturn, 1) := by decide +kernel
theorem d177_83 : decode (zB 177) 83 = .ok (.iinc 3 1, 3) := by decide +kernel
theorem d177_86 : decode (zB 177) 86 = .ok (.goto (-84), 3) := by decide +kernel
theorem d177_89 : decode (zB 177) 89 = .ok (.iconst 0, 1) := by decide +kernel
theorem d177_90 : decode (zB 177) 90 = .ok (.ireturn, 1) := by decide +kernel
theorem d178_0 : decode (zB 178) 0 = .ok (.aload_n 0, 1) := by decide +kernel
theorem d178_1 : decode (zB 178) 1 = .ok (.getfield 22, 3) := by decide +kernel
theorem d178_4 : decode (zB 178) 4 = .ok (.iload_n 1, 1) := by decide +kernel
theorem d178_5 : decode (zB 178) 5 = .ok (.iaload, 1) := by decide +kernel
theorem d178_6 : decode (zB 178) 6 = .ok (.istore_n 2, 1) := by decide +kernel
theorem d178_7 : decode (zB 178) 7 = .ok (.aload_n 0, 1) := by decide +kernel
theorem d178_8 : decode (zB 178) 8 = .ok (.getfield 68, 3) := by decide +kernel
theorem d178_11 : decode (zB 178) 11 = .ok (.iconst 0, 1) := by decide +kernel
theorem d178_12 : decode (zB 178) 12 = .ok (.aload_n 0, 1) := by decide +kernel
theorem d178_13 : decode (zB 178) 13 = .ok (.getfield 7, 3) := by decide +kernel
theorem d178_16 : decode (zB 178) 16 = .ok (.iload_n 2, 1) := by decide +kernel
theorem d178_17 : decode (zB 178) 17 = .ok (.iaload, 1) := by decide +kernel
theorem d178_18 : decode (zB 178) 18 = .ok (.iastore, 1) := by decide +kernel
theorem d178_19 : decode (zB 178) 19 = .ok (.aload_n 0, 1) := by decide +kernel
theorem d178_20 : decode (zB 178) 20 = .ok (.getfield 68, 3) := by decide +kernel
theorem d178_23 : decode (zB 178) 23 = .ok (.iconst 1, 1) := by decide +kernel
theorem d178_24 : decode (zB 178) 24 = .ok (.aload_n 0, 1) := by decide +kernel
theorem d178_25 : decode (zB 178) 25 = .ok (.iload_n 2, 1) := by decide +kernel
theorem d178_26 : decode (zB 178) 26 = .ok (.invokevirtual 291, 3) := by decide +kernel
theorem d178_29 : decode (zB 178) 29 = .ok (.iastore, 1) := by decide +kernel
theorem d178_30 : decode (zB 178) 30 = .ok (.aload_n 0, 1) := by decide +kernel
theorem d178_31 : decode (zB 178) 31 = .ok (.getfield 68, 3) := by decide +kernel
theorem d178_34 : decode (zB 178) 34 = .ok (.iconst 2, 1) := by decide +kernel
theorem d178_35 : decode (zB 178) 35 = .ok (.aload_n 0, 1) := by decide +kernel
theorem d178_36 : decode (zB 178) 36 = .ok (.getfield 13, 3) := by decide +kernel
theorem d178_39 : decode (zB 178) 39 = .ok (.iload_n 2, 1) := by decide +kernel
theorem d178_40 : decode (zB 178) 40 = .ok (.iaload, 1) := by decide +kernel
theorem d178_41 : decode (zB 178) 41 = .ok (.iastore, 1) := by decide +kernel
theorem d178_42 : decode (zB 178) 42 = .ok (.aload_n 0, 1) := by decide +kernel
theorem d178_43 : decode (zB 178) 43 = .ok (.getfield 68, 3) := by decide +kernel
theorem d178_46 : decode (zB 178) 46 = .ok (.iconst 3, 1) := by decide +kernel
theorem d178_47 : decode (zB 178) 47 = .ok (.iload_n 2, 1) := by decide +kernel
theorem d178_48 : decode (zB 178) 48 = .ok (.iastore, 1) := by decide +kernel
theorem d178_49 : decode (zB 178) 49 = .ok (.aload_n 0, 1) := by decide +kernel
theorem d178_50 : decode (zB 178) 50 = .ok (.getfield 68, 3) := by decide +kernel
theorem d178_53 : decode (zB 178) 53 = .ok (.iconst 4, 1) := by decide +kernel
theorem d178_54 : decode (zB 178) 54 = .ok (.iload_n 1, 1) := by decide +kernel
theorem d178_55 : decode (zB 178) 55 = .ok (.iastore, 1) := by decide +kernel
theorem d178_56 : decode (zB 178) 56 = .ok (.aload_n 0, 1) := by decide +kernel
theorem d178_57 : decode (zB 178) 57 = .ok (.getfield 68, 3) := by decide +kernel
theorem d178_60 : decode (zB 178) 60 = .ok (.iconst 5, 1) := by decide +kernel
theorem d178_61 : decode (zB 178) 61 = .ok (.aload_n 0, 1) := by decide +kernel
theorem d178_62 : decode (zB 178) 62 = .ok (.getfield 173, 3) := by decide +kernel
theorem d178_65 : decode (zB 178) 65 = .ok (.iastore, 1) := by decide +kernel
theorem d178_66 : decode (zB 178) 66 = .ok (.aload_n 0, 1) := by decide +kernel
theorem d178_67 : decode (zB 178) 67 = .ok (.getfield 68, 3) := by decide +kernel
theorem d178_70 : decode (zB 178) 70 = .ok (.bipush 6, 2) := by decide +kernel
theorem d178_72 : decode (zB 178) 72 = .ok (.aload_n 0, 1) := by decide +kernel
theorem d178_73 : decode (zB 178) 73 = .ok (.getfield 19, 3) := by decide +kernel
theorem d178_76 : decode (zB 178) 76 = .ok (.iload_n 2, 1) := by decide +kernel
theorem d178_77 : decode (zB 178) 77 = .ok (.iaload, 1) := by decide +kernel
theorem d178_78 : decode (zB 178) 78 = .ok (.iastore, 1) := by decide +kernel
theorem d178_79 : decode (zB 178) 79 = .ok (.aload_n 0, 1) := by decide +kernel
theorem d178_80 : decode (zB 178) 80 = .ok (.getfield 68, 3) := by decide +kernel
theorem d178_83 : decode (zB 178) 83 = .ok (.bipush 7, 2) := by decide +kernel
theorem d178_85 : decode (zB 178) 85 = .ok (.aload_n 0, 1) := by decide +kernel
theorem d178_86 : decode (zB 178) 86 = .ok (.getfield 156, 3) := by decide +kernel
theorem d178_89 : decode (zB 178) 89 = .ok (.iastore, 1) := by decide +kernel
theorem d178_90 : decode (zB 178) 90 = .ok (.return_, 1) := by decide +kernel
theorem d179_0 : decode (zB 179) 0 = .ok (.aload_n 0, 1) := by decide +kernel
theorem d179_1 : decode (zB 179) 1 = .ok (.iload_n 1, 1) := by decide +kernel
theorem d179_2 : decode (zB 179) 2 = .ok (.invokevirtual 294, 3) := by decide +kernel
theorem d179_5 : decode (zB 179) 5 = .ok (.iconst 0, 1) := by decide +kernel
theorem d179_6 : decode (zB 179) 6 = .ok (.istore_n 2, 1) := by decide +kernel
theorem d179_7 : decode (zB 179) 7 = .ok (.iload_n 2, 1) := by decide +kernel
theorem d179_8 : decode (zB 179) 8 = .ok (.aload_n 0, 1) := by decide +kernel
theorem d179_9 : decode (zB 179) 9 = .ok (.getfield 280, 3) := by decide +kernel
theorem d179_12 : decode (zB 179) 12 = .ok (.if_icmp .ge 42, 3) := by decide +kernel
theorem d179_15 : decode (zB 179) 15 = .ok (.aload_n 0, 1) := by decide +kernel
theorem d179_16 : decode (zB 179) 16 = .ok (.getfield 53, 3) := by decide +kernel
theorem d179_19 : decode (zB 179) 19 = .ok (.iload_n 2, 1) := by decide +kernel
theorem d179_20 : decode (zB 179) 20 = .ok (.iaload, 1) := by decide +kernel
theorem d179_21 : decode (zB 179) 21 = .ok (.bipush 122, 2) := by decide +kernel
theorem d179_23 : decode (zB 179) 23 = .ok (.if_icmp .ne 25, 3) := by decide +kernel
theorem d179_26 : decode (zB 179) 26 = .ok (.aload_n 0, 1) := by decide +kernel
theorem d179_27 : decode (zB 179) 27 = .ok (.aload_n 0, 1) := by decide +kernel
theorem d179_28 : decode (zB 179) 28 = .ok (.getfield 59, 3) := by decide +kernel
theorem d179_31 : decode (zB 179) 31 = .ok (.iload_n 2, 1) := by decide +kernel
theorem d179_32 : decode (zB 179) 32 = .ok (.iaload, 1) := by decide +kernel
theorem d179_33 : decode (zB 179) 33 = .ok (.aload_n 0, 1) := by decide +kernel
theorem d179_34 : decode (zB 179) 34 = .ok (.getfield 62, 3) := by decide +kernel
theorem d179_37 : decode (zB 179) 37 = .ok (.iload_n 2, 1) := by decide +kernel
theorem d179_38 : decode (zB 179) 38 = .ok (.iaload, 1) := by decide +kernel
theorem d179_39 : decode (zB 179) 39 = .ok (.invokevirtual 287, 3) := by decide +kernel
theorem d179_42 : decode (zB 179) 42 = .ok (.iconst 1, 1) := by decide +kernel
theorem d179_43 : decode (zB 179) 43 = .ok (.if_icmp .ne 5, 3) := by decide +kernel
theorem d179_46 : decode (zB 179) 46 = .ok (.iconst 1, 1) := by decide +kernel
theorem d179_47 : decode (zB 179) 47 = .ok (.ireturn, 1) := by decide +kernel
theorem d179_48 : decode (zB 179) 48 = .ok (.iinc 2 1, 3) := by decide +kernel
theorem d179_51 : decode (zB 179) 51 = .ok (.goto (-44), 3) := by decide +kernel
theorem d179_54 : decode (zB 179) 54 = .ok (.iconst 0, 1) := by decide +kernel
theorem d179_55 : decode (zB 179) 55 = .ok (.ireturn, 1) := by decide +kernel
theorem d180_0 : decode (zB 180) 0 = .ok (.aload_n 0, 1) := by decide +kernel
theorem d180_1 : decode (zB 180) 1 = .ok (.iload_n 1, 1) := by decide +kernel
theorem d180_2 : decode (zB 180) 2 = .ok (.invokevirtual 294, 3) := by decide +kernel
theorem d180_5 : decode (zB 180) 5 = .ok (.aload_n 0, 1) := by decide +kernel
theorem d180_6 : decode (zB 180) 6 = .ok (.bipush 104, 2) := by decide +kernel
theorem d180_8 : decode (zB 180) 8 = .ok (.aload_n 0, 1) := by decide +kernel
theorem d180_9 : decode (zB 180) 9 = .ok (.getfield 156, 3) := by decide +kernel
theorem d180_12 : decode (zB 180) 12 = .ok (.iconst 1, 1) := by decide +kernel
theorem d180_13 : decode (zB 180) 13 = .ok (.isub, 1) := by decide +kernel
theorem d180_14 : decode (zB 180) 14 = .ok (.invokevirtual 297, 3) := by decide +kernel
theorem d180_17 : decode (zB 180) 17 = .ok (.ireturn, 1) := by decide +kernel
theorem d181_0 : decode (zB 181) 0 = .ok (.aload_n 0, 1) := by decide +kernel
theorem d181_1 : decode (zB 181) 1 = .ok (.iload_n 1, 1) := by decide +kernel
theorem d181_2 : decode (zB 181) 2 = .ok (.invokevirtual 294, 3) := by decide +kernel
theorem d181_5 : decode (zB 181) 5 = .ok (.aload_n 0, 1) := by decide +kernel
theorem d181_6 : decode (zB 181) 6 = .ok (.bipush 116, 2) := by decide +kernel
theorem d181_8 : decode (zB 181) 8 = .ok (.bipush 99, 2) := by decide +kernel
theorem d181_10 : decode (zB 181) 10 = .ok (.invokevirtual 297, 3) := by decide +kernel
theorem d181_13 : decode (zB 181) 13 = .ok (.ireturn, 1) := by decide +kernel
theorem d182_0 : decode (zB 182) 0 = .ok (.iconst 0, 1) := by decide +kernel
theorem d182_1 : decode (zB 182) 1 = .ok (.istore_n 1, 1) := by decide +kernel
theorem d182_2 : decode (zB 182) 2 = .ok (.iload_n 1, 1) := by decide +kernel
theorem d182_3 : decode (zB 182) 3 = .ok (.aload_n 0, 1) := by decide +kernel
theorem d182_4 : decode (zB 182) 4 = .ok (.getfield 159, 3) := by decide +kernel
theorem d182_7 : decode (zB 182) 7 = .ok (.if_icmp .ge 29, 3) := by decide +kernel
theorem d182_10 : decode (zB 182) 10 = .ok (.aload_n 0, 1) := by decide +kernel
theorem d182_11 : decode (zB 182) 11 = .ok (.getfield 16, 3) := by decide +kernel
theorem d182_14 : decode (zB 182) 14 = .ok (.iload_n 1, 1) := by decide +kernel
theorem d182_15 : decode (zB 182) 15 = .ok (.iaload, 1) := by decide +kernel
theorem d182_16 : decode (zB 182) 16 = .ok (.aload_n 0, 1) := by decide +kernel
theorem d182_17 : decode (zB 182) 17 = .ok (.getfield 173, 3) := by decide +kernel
theorem d182_20 : decode (zB 182) 20 = .ok (.iconst 1, 1) := by decide +kernel
theorem d182_21 : decode (zB 182) 21 = .ok (.iadd, 1) := by decide +kernel
theorem d182_22 : decode (zB 182) 22 = .ok (.if_icmp .ne 8, 3) := by decide +kernel
theorem d182_25 : decode (zB 182) 25 = .ok (.aload_n 0, 1) := by decide +kernel
theorem d182_26 : decode (zB 182) 26 = .ok (.iload_n 1, 1) := by decide +kernel
theorem d182_27 : decode (zB 182) 27 = .ok (.invokevirtual 176, 3) := by decide +kernel
theorem d182_30 : decode (zB 182) 30 = .ok (.iinc 1 1, 3) := by decide +kernel
theorem d182_33 : decode (zB 182) 33 = .ok (.goto (-31), 3) := by decide +kernel
theorem d182_36 : decode (zB 182) 36 = .ok (.return_, 1) := by decide +kernel
theorem d183_0 : decode (zB 183) 0 = .ok (.iconst 0, 1) := by decide +kernel
theorem d183_1 : decode (zB 183) 1 = .ok (.istore_n 1, 1) := by decide +kernel
theorem d183_2 : decode (zB 183) 2 = .ok (.iconst 0, 1) := by decide +kernel
theorem d183_3 : decode (zB 183) 3 = .ok (.istore_n 2, 1) := by decide +kernel
theorem d183_4 : decode (zB 183) 4 = .ok (.iload_n 2, 1) := by decide +kernel
theorem d183_5 : decode (zB 183) 5 = .ok (.aload_n 0, 1) := by decide +kernel
theorem d183_6 : decode (zB 183) 6 = .ok (.getfield 162, 3) := by decide +kernel
theorem d183_9 : decode (zB 183) 9 = .ok (.if_icmp .ge 38, 3) := by decide +kernel
theorem d183_12 : decode (zB 183) 12 = .ok (.aload_n 0, 1) := by decide +kernel
theorem d183_13 : decode (zB 183) 13 = .ok (.getfield 71, 3) := by decide +kernel
theorem d183_16 : decode (zB 183) 16 = .ok (.iload_n 2, 1) := by decide +kernel
theorem d183_17 : decode (zB 183) 17 = .ok (.iaload, 1) := by decide +kernel
theorem d183_18 : decode (zB 183) 18 = .ok (.iconst (-1), 1) := by decide +kernel
theorem d183_19 : decode (zB 183) 19 = .ok (.if_icmp .eq 6, 3) := by decide +kernel
theorem d183_22 : decode (zB 183) 22 = .ok (.goto 19, 3) := by decide +kernel
theorem d183_25 : decode (zB 183) 25 = .ok (.aload_n 0, 1) := by decide +kernel
theorem d183_26 : decode (zB 183) 26 = .ok (.getfield 74, 3) := by decide +kernel
theorem d183_29 : decode (zB 183) 29 = .ok (.iload_n 1, 1) := by decide +kernel
theorem d183_30 : decode (zB 183) 30 = .ok (.aload_n 0, 1) := by decide +kernel
theorem d183_31 : decode (zB 183) 31 = .ok (.getfield 22, 3) := by decide +kernel
theorem d183_34 : decode (zB 183) 34 = .ok (.iload_n 2, 1) := by decide +kernel
theorem d183_35 : decode (zB 183) 35 = .ok (.iaload, 1) := by decide +kernel
theorem d183_36 : decode (zB 183) 36 = .ok (.iastore, 1) := by decide +kernel
theorem d183_37 : decode (zB 183) 37 = .ok (.iload_n 1, 1) := by decide +kernel
theorem d183_38 : decode (zB 183) 38 = .ok (.iconst 1, 1) := by decide +kernel
theorem d183_39 : decode (zB 183) 39 = .ok (.iadd, 1) := by decide +kernel
theorem d183_40 : decode (zB 183) 40 = .ok (.istore_n 1, 1) := by decide +kernel
theorem d183_41 : decode (zB 183) 41 = .ok (.iinc 2 1, 3) := by decide +kernel
theorem d183_44 : decode (zB 183) 44 = .ok (.goto (-40), 3) := by decide +kernel
theorem d183_47 : decode (zB 183) 47 = .ok (.iconst 0, 1) := by decide +kernel
theorem d183_48 : decode (zB 183) 48 = .ok (.istore_n 2, 1) := by decide +kernel
theorem d183_49 : decode (zB 183) 49 = .ok (.iload_n 2, 1) := by decide +kernel
theorem d183_50 : decode (zB 183) 50 = .ok (.aload_n 0, 1) := by decide +kernel
theorem d183_51 : decode (zB 183) 51 = .ok (.getfield 156, 3) := by decide +kernel
theorem d183_54 : decode (zB 183) 54 = .ok (.if_icmp .ge 81, 3) := by decide +kernel
theorem d183_57 : decode (zB 183) 57 = .ok (.iconst 0, 1) := by decide +kernel
theorem d183_58 : decode (zB 183) 58 = .ok (.istore_n 3, 1) := by decide +kernel
theorem d183_59 : decode (zB 183) 59 = .ok (.iload_n 3, 1) := by decide +kernel
theorem d183_60 : decode (zB 183) 60 = .ok (.aload_n 0, 1) := by decide +kernel
theorem d183_61 : decode (zB 183) 61 = .ok (.getfield 162, 3) := by decide +kernel
theorem d183_64 : decode (zB 183) 64 = .ok (.if_icmp .ge 65, 3) := by decide +kernel
theorem d183_67 : decode (zB 183) 67 = .ok (.aload_n 0, 1) := by decide +kernel
theorem d183_68 : decode (zB 183) 68 = .ok (.getfield 180, 3) := by decide +kernel
theorem d183_71 : decode (zB 183) 71 = .ok (.iload_n 2, 1) := by decide +kernel
theorem d183_72 : decode (zB 183) 72 = .ok (.invokestatic 300, 3) := by decide +kernel
theorem d183_75 : decode (zB 183) 75 = .ok (.ifCond .eq 14, 3) := by decide +kernel
theorem d183_78 : decode (zB 183) 78 = .ok (.aload_n 0, 1) := by decide +kernel
theorem d183_79 : decode (zB 183) 79 = .ok (.getfield 162, 3) := by decide +kernel
theorem d183_82 : decode (zB 183) 82 = .ok (.iconst 1, 1) := by decide +kernel
theorem d183_83 : decode (zB 183) 83 = .ok (.isub, 1) := by decide +kernel
theorem d183_84 : decode (zB 183) 84 = .ok (.iload_n 3, 1) := by decide +kernel
theorem d183_85 : decode (zB 183) 85 = .ok (.isub, 1) := by decide +kernel
theorem d183_86 : decode (zB 183) 86 = .ok (.goto 4, 3) := by decide +kernel
theorem d183_89 : decode (zB 183) 89 = .ok (.iload_n 3, 1) := by decide +kernel
theorem d183_90 : decode (zB 183) 90 = .ok (.istore 4, 2) := by decide +kernel
theorem d183_92 : decode (zB 183) 92 = .ok (.aload_n 0, 1) := by decide +kernel
theorem d183_93 : decode (zB 183) 93 = .ok (.getfield 71, 3) := by decide +kernel
theorem d183_96 : decode (zB 183) 96 = .ok (.iload 4, 2) := by decide +kernel
theorem d183_98 : decode (zB 183) 98 = .ok (.iaload, 1) := by decide +kernel
theorem d183_99 : decode (zB 183) 99 = .ok (.iload_n 2, 1) := by decide +kernel
theorem d183_100 : decode (zB 183) 100 = .ok (.if_icmp .eq 6, 3) := by decide +kernel
theorem d183_103 : decode (zB 183) 103 = .ok (.goto 20, 3) := by decide +kernel
theorem d183_106 : decode (zB 183) 106 = .ok (.aload_n 0, 1) := by decide +kernel
theorem d183_107 : decode (zB 183) 107 = .ok (.getfield 74, 3) := by decide +kernel
theorem d183_110 : decode (zB 183) 110 = .ok (.iload_n 1, 1) := by decide +kernel
theorem d183_111 : decode (zB 183) 111 = .ok (.aload_n 0, 1) := by decide +kernel
theorem d183_112 : decode (zB 183) 112 = .ok (.getfield 22, 3) := by decide +kernel
theorem d183_115 : decode (zB 183) 115 = .ok (.iload 4, 2) := by decide +kernel
theorem d183_117 : decode (zB 183) 117 = .ok (.iaload, 1) := by decide +kernel
theorem d183_118 : decode (zB 183) 118 = .ok (.iastore, 1) := by decide +kernel
theorem d183_119 : decode (zB 183) 119 = .ok (.iload_n 1, 1) := by decide +kernel
theorem d183_120 : decode (zB 183) 120 = .ok (.iconst 1, 1) := by decide +kernel
theorem d183_121 : decode (zB 183) 121 = .ok (.iadd, 1) := by decide +kernel
theorem d183_122 : decode (zB 183) 122 = .ok (.istore_n 1, 1) := by decide +kernel
theorem d183_123 : decode (zB 183) 123 = .ok (.iinc 3 1, 3) := by decide +kernel
theorem d183_126 : decode (zB 183) 126 = .ok (.goto (-67), 3) := by decide +kernel
theorem d183_129 : decode (zB 183) 129 = .ok (.iinc 2 1, 3) := by decide +kernel
theorem d183_132 : decode (zB 183) 132 = .ok (.goto (-83), 3) := by decide +kernel
theorem d183_135 : decode (zB 183) 135 = .ok (.iconst 0, 1) := by decide +kernel
theorem d183_136 : decode (zB 183) 136 = .ok (.istore_n 2, 1) := by decide +kernel
theorem d183_137 : decode (zB 183) 137 = .ok (.iload_n 2, 1) := by decide +kernel
theorem d183_138 : decode (zB 183) 138 = .ok (.iload_n 1, 1) := by decide +kernel
theorem d183_139 : decode (zB 183) 139 = .ok (.if_icmp .ge 21, 3) := by decide +kernel
theorem d183_142 : decode (zB 183) 142 = .ok (.aload_n 0, 1) := by decide +kernel
theorem d183_143 : decode (zB 183) 143 = .ok (.getfield 22, 3) := by decide +kernel
theorem d183_146 : decode (zB 183) 146 = .ok (.iload_n 2, 1) := by decide +kernel
theorem d183_147 : decode (zB 183) 147 = .ok (.aload_n 0, 1) := by decide +kernel
theorem d183_148 : decode (zB 183) 148 = .ok (.getfield 74, 3) := by decide +kernel
theorem d183_151 : decode (zB 183) 151 = .ok (.iload_n 2, 1) := by decide +kernel
theorem d183_152 : decode (zB 183) 152 = .ok (.iaload, 1) := by decide +kernel
theorem d183_153 : decode (zB 183) 153 = .ok (.iastore, 1) := by decide +kernel
theorem d183_154 : decode (zB 183) 154 = .ok (.iinc 2 1, 3) := by decide +kernel
theorem d183_157 : decode (zB 183) 157 = .ok (.goto (-20), 3) := by decide +kernel
theorem d183_160 : decode (zB 183) 160 = .ok (.return_, 1) := by decide +kernel
theorem d184_0 : decode (zB 184) 0 = .ok (.iconst 0, 1) := by decide +kernel
theorem d184_1 : decode (zB 184) 1 = .ok (.istore_n 1, 1) := by decide +kernel
theorem d184_2 : decode (zB 184) 2 = .ok (.iload_n 1, 1) := by decide +kernel
theorem d184_3 : decode (zB 184) 3 = .ok (.aload_n 0, 1) := by decide +kernel
theorem d184_4 : decode (zB 184) 4 = .ok (.getfield 162, 3) := by decide +kernel
theorem d184_7 : decode (zB 184) 7 = .ok (.if_icmp .ge 89, 3) := by decide +kernel
theorem d184_10 : decode (zB 184) 10 = .ok (.aload_n 0, 1) := by decide +kernel
theorem d184_11 : decode (zB 184) 11 = .ok (.getfield 71, 3) := by decide +kernel
theorem d184_14 : decode (zB 184) 14 = .ok (.iload_n 1, 1) := by decide +kernel
theorem d184_15 : decode (zB 184) 15 = .ok (.aload_n 0, 1) := by decide +kernel
theorem d184_16 : decode (zB 184) 16 = .ok (.iload_n 1, 1) := by decide +kernel
theorem d184_17 : decode (zB 184) 17 = .ok (.invokevirtual 303, 3) := by decide +kernel
theorem d184_20 : decode (zB 184) 20 = .ok (.ifCond .eq 7, 3) := by decide +kernel
theorem d184_23 : decode (zB 184) 23 = .ok (.iconst (-1), 1) := by decide +kernel
theorem d184_24 : decode (zB 184) 24 = .ok (.goto 8, 3) := by decide +kernel
theorem d184_27 : decode (zB 184) 27 = .ok (.aload_n 0, 1) := by decide +kernel
theorem d184_28 : decode (zB 184) 28 = .ok (.iload_n 1, 1) := by decide +kernel
theorem d184_29 : decode (zB 184) 29 = .ok (.invokevirtual 306, 3) := by decide +kernel
theorem d184_32 : decode (zB 184) 32 = .ok (.iastore, 1) := by decide +kernel
theorem d184_33 : decode (zB 184) 33 = .ok (.aload_n 0, 1) := by decide +kernel
theorem d184_34 : decode (zB 184) 34 = .ok (.getfield 71, 3) := by decide +kernel
theorem d184_37 : decode (zB 184) 37 = .ok (.iload_n 1, 1) := by decide +kernel
theorem d184_38 : decode (zB 184) 38 = .ok (.iaload, 1) := by decide +kernel
theorem d184_39 : decode (zB 184) 39 = .ok (.iconst (-1), 1) := by decide +kernel
theorem d184_40 : decode (zB 184) 40 = .ok (.if_icmp .ne 6, 3) := by decide +kernel
theorem d184_43 : decode (zB 184) 43 = .ok (.goto 47, 3) := by decide +kernel
theorem d184_46 : decode (zB 184) 46 = .ok (.aload_n 0, 1) := by decide +kernel
theorem d184_47 : decode (zB 184) 47 = .ok (.aload_n 0, 1) := by decide +kernel
theorem d184_48 : decode (zB 184) 48 = .ok (.getfield 309, 3) := by decide +kernel
theorem d184_51 : decode (zB 184) 51 = .ok (.aload_n 0, 1) := by decide +kernel
theorem d184_52 : decode (zB 184) 52 = .ok (.iload_n 1, 1) := by decide +kernel
theorem d184_53 : decode (zB 184) 53 = .ok (.invokevirtual 312, 3) := by decide +kernel
theorem d184_56 : decode (zB 184) 56 = .ok (.iadd, 1) := by decide +kernel
theorem d184_57 : decode (zB 184) 57 = .ok (.putfield 309, 3) := by decide +kernel
theorem d184_60 : decode (zB 184) 60 = .ok (.aload_n 0, 1) := by decide +kernel
theorem d184_61 : decode (zB 184) 61 = .ok (.aload_n 0, 1) := by decide +kernel
theorem d184_62 : decode (zB 184) 62 = .ok (.getfield 315, 3) := by decide +kernel
theorem d184_65 : decode (zB 184) 65 = .ok (.aload_n 0, 1) := by decide +kernel
theorem d184_66 : decode (zB 184) 66 = .ok (.getfield 13, 3) := by decide +kernel
theorem d184_69 : decode (zB 184) 69 = .ok (.aload_n 0, 1) := by decide +kernel
theorem d184_70 : decode (zB 184) 70 = .ok (.getfield 22, 3) := by decide +kernel
theorem d184_73 : decode (zB 184) 73 = .ok (.iload_n 1, 1) := by decide +kernel
theorem d184_74 : decode (zB 184) 74 = .ok (.iaload, 1) := by decide +kernel
theorem d184_75 : decode (zB 184) 75 = .ok (.iaload, 1) := by decide +kernel
theorem d184_76 : decode (zB 184) 76 = .ok (.iadd, 1) := by decide +kernel
theorem d184_77 : decode (zB 184) 77 = .ok (.putfield 315, 3) := by decide +kernel
theorem d184_80 : decode (zB 184) 80 = .ok (.aload_n 0, 1) := by decide +kernel
theorem d184_81 : decode (zB 184) 81 = .ok (.aload_n 0, 1) := by decide +kernel
theorem d184_82 : decode (zB 184) 82 = .ok (.getfield 318, 3) := by decide +kernel
theorem d184_85 : decode (zB 184) 85 = .ok (.iconst 1, 1) := by decide +kernel
theorem d184_86 : decode (zB 184) 86 = .ok (.iadd, 1) := by decide +kernel
theorem d184_87 : decode (zB 184) 87 = .ok (.putfield 318, 3) := by decide +kernel
theorem d184_90 : decode (zB 184) 90 = .ok (.iinc 1 1, 3) := by decide +kernel
theorem d184_93 : decode (zB 184) 93 = .ok (.goto (-91), 3) := by decide +kernel
theorem d184_96 : decode (zB 184) 96 = .ok (.return_, 1) := by decide +kernel
theorem d185_0 : decode (zB 185) 0 = .ok (.iconst 0, 1) := by decide +kernel
theorem d185_1 : decode (zB 185) 1 = .ok (.istore_n 1, 1) := by decide +kernel
theorem d185_2 : decode (zB 185) 2 = .ok (.iload_n 1, 1) := by decide +kernel
theorem d185_3 : decode (zB 185) 3 = .ok (.aload_n 0, 1) := by decide +kernel
theorem d185_4 : decode (zB 185) 4 = .ok (.getfield 162, 3) := by decide +kernel
theorem d185_7 : decode (zB 185) 7 = .ok (.if_icmp .ge 36, 3) := by decide +kernel
theorem d185_10 : decode (zB 185) 10 = .ok (.aload_n 0, 1) := by decide +kernel
theorem d185_11 : decode (zB 185) 11 = .ok (.getfield 71, 3) := by decide +kernel
theorem d185_14 : decode (zB 185) 14 = .ok (.iload_n 1, 1) := by decide +kernel
theorem d185_15 : decode (zB 185) 15 = .ok (.iaload, 1) := by decide +kernel
theorem d185_16 : decode (zB 185) 16 = .ok (.iconst (-1), 1) := by decide +kernel
theorem d185_17 : decode (zB 185) 17 = .ok (.if_icmp .eq 20, 3) := by decide +kernel
theorem d185_20 : decode (zB 185) 20 = .ok (.aload_n 0, 1) := by decide +kernel
theorem d185_21 : decode (zB 185) 21 = .ok (.getfield 19, 3) := by decide +kernel
theorem d185_24 : decode (zB 185) 24 = .ok (.aload_n 0, 1) := by decide +kernel
theorem d185_25 : decode (zB 185) 25 = .ok (.getfield 22, 3) := by decide +kernel
theorem d185_28 : decode (zB 185) 28 = .ok (.iload_n 1, 1) := by decide +kernel
theorem d185_29 : decode (zB 185) 29 = .ok (.iaload, 1) := by decide +kernel
theorem d185_30 : decode (zB 185) 30 = .ok (.aload_n 0, 1) := by decide +kernel
theorem d185_31 : decode (zB 185) 31 = .ok (.getfield 71, 3) := by decide +kernel
theorem d185_34 : decode (zB 185) 34 = .ok (.iload_n 1, 1) := by decide +kernel
theorem d185_35 : decode (zB 185) 35 = .ok (.iaload, 1) := by decide +kernel
theorem d185_36 : decode (zB 185) 36 = .ok (.iastore, 1) := by decide +kernel
theorem d185_37 : decode (zB 185) 37 = .ok (.iinc 1 1, 3) := by decide +kernel
theorem d185_40 : decode (zB 185) 40 = .ok (.goto (-38), 3) := by decide +kernel
theorem d185_43 : decode (zB 185) 43 = .ok (.aload_n 0, 1) := by decide +kernel
theorem d185_44 : decode (zB 185) 44 = .ok (.invokevirtual 321, 3) := by decide +kernel
theorem d185_47 : decode (zB 185) 47 = .ok (.aload_n 0, 1) := by decide +kernel
theorem d185_48 : decode (zB 185) 48 = .ok (.aload_n 0, 1) := by decide +kernel
theorem d185_49 : decode (zB 185) 49 = .ok (.getfield 173, 3) := by decide +kernel
theorem d185_52 : decode (zB 185) 52 = .ok (.iconst 1, 1) := by decide +kernel
theorem d185_53 : decode (zB 185) 53 = .ok (.iadd, 1) := by decide +kernel
theorem d185_54 : decode (zB 185) 54 = .ok (.putfield 173, 3) := by decide +kernel
theorem d185_57 : decode (zB 185) 57 = .ok (.return_, 1) := by decide +kernel
theorem d186_0 : decode (zB 186) 0 = .ok (.aload_n 0, 1) := by decide +kernel
theorem d186_1 : decode (zB 186) 1 = .ok (.invokevirtual 324, 3) := by decide +kernel
theorem d186_4 : decode (zB 186) 4 = .ok (.aload_n 0, 1) := by decide +kernel
theorem d186_5 : decode (zB 186) 5 = .ok (.invokevirtual 327, 3) := by decide +kernel
theorem d186_8 : decode (zB 186) 8 = .ok (.aload_n 0, 1) := by decide +kernel
theorem d186_9 : decode (zB 186) 9 = .ok (.invokevirtual 330, 3) := by decide +kernel
theorem d186_12 : decode (zB 186) 12 = .ok (.return_, 1) := by decide +kernel
theorem d187_0 : decode (zB 187) 0 = .ok (.aload_n 0, 1) := by decide +kernel
theorem d187_1 : decode (zB 187) 1 = .ok (.iconst 0, 1) := by decide +kernel
theorem d187_2 : decode (zB 187) 2 = .ok (.putfield 309, 3) := by decide +kernel
theorem d187_5 : decode (zB 187) 5 = .ok (.aload_n 0, 1) := by decide +kernel
theorem d187_6 : decode (zB 187) 6 = .ok (.iconst 0, 1) := by decide +kernel
theorem d187_7 : decode (zB 187) 7 = .ok (.putfield 315, 3) := by decide +kernel
theorem d187_10 : decode (zB 187) 10 = .ok (.aload_n 0, 1) := by decide +kernel
theorem d187_11 : decode (zB 187) 11 = .ok (.iconst 0, 1) := by decide +kernel
theorem d187_12 : decode (zB 187) 12 = .ok (.putfield 318, 3) := by decide +kernel
theorem d187_15 : decode (zB 187) 15 = .ok (.iconst 0, 1) := by decide +kernel
theorem d187_16 : decode (zB 187) 16 = .ok (.istore_n 2, 1) := by decide +kernel
theorem d187_17 : decode (zB 187) 17 = .ok (.iload_n 2, 1) := by decide +kernel
theorem d187_18 : decode (zB 187) 18 = .ok (.iload_n 1, 1) := by decide +kernel
theorem d187_19 : decode (zB 187) 19 = .ok (.if_icmp .ge 13, 3) := by decide +kernel
theorem d187_22 : decode (zB 187) 22 = .ok (.aload_n 0, 1) := by decide +kernel
theorem d187_23 : decode (zB 187) 23 = .ok (.invokevirtual 333, 3) := by decide +kernel
theorem d187_26 : decode (zB 187) 26 = .ok (.iinc 2 1, 3) := by decide +kernel
theorem d187_29 : decode (zB 187) 29 = .ok (.goto (-12), 3) := by decide +kernel
theorem d187_32 : decode (zB 187) 32 = .ok (.return_, 1) := by decide +kernel
theorem d188_0 : decode (zB 188) 0 = .ok (.iload_n 1, 1) := by decide +kernel
theorem d188_1 : decode (zB 188) 1 = .ok (.iconst 1, 1) := by decide +kernel
theorem d188_2 : decode (zB 188) 2 = .ok (.bipush 12, 2) := by decide +kernel
theorem d188_4 : decode (zB 188) 4 = .ok (.invokestatic 169, 3) := by decide +kernel
theorem d188_7 : decode (zB 188) 7 = .ok (.ifCond .eq 18, 3) := by decide +kernel
theorem d188_10 : decode (zB 188) 10 = .ok (.aload_n 0, 1) := by decide +kernel
theorem d188_11 : decode (zB 188) 11 = .ok (.getfield 173, 3) := by decide +kernel
theorem d188_14 : decode (zB 188) 14 = .ok (.iload_n 1, 1) := by decide +kernel
theorem d188_15 : decode (zB 188) 15 = .ok (.iadd, 1) := by decide +kernel
theorem d188_16 : decode (zB 188) 16 = .ok (.bipush 12, 2) := by decide +kernel
theorem d188_18 : decode (zB 188) 18 = .ok (.if_icmp .gt 7, 3) := by decide +kernel
theorem d188_21 : decode (zB 188) 21 = .ok (.iconst 1, 1) := by decide +kernel
theorem d188_22 : decode (zB 188) 22 = .ok (.goto 4, 3) := by decide +kernel
theorem d188_25 : decode (zB 188) 25 = .ok (.iconst 0, 1) := by decide +kernel
theorem d188_26 : decode (zB 188) 26 = .ok (.ireturn, 1) := by decide +kernel
theorem d189_0 : decode (zB 189) 0 = .ok (.iconst 0, 1) := by decide +kernel
theorem d189_1 : decode (zB 189) 1 = .ok (.istore_n 2, 1) := by decide +kernel
theorem d189_2 : decode (zB 189) 2 = .ok (.iload_n 2, 1) := by decide +kernel
theorem d189_3 : decode (zB 189) 3 = .ok (.bipush 32, 2) := by decide +kernel
theorem d189_5 : decode (zB 189) 5 = .ok (.if_icmp .ge 15, 3) := by decide +kernel
theorem d189_8 : decode (zB 189) 8 = .ok (.aload_n 1, 1) := by decide +kernel
theorem d189_9 : decode (zB 189) 9 = .ok (.iload_n 2, 1) := by decide +kernel
theorem d189_10 : decode (zB 189) 10 = .ok (.aload_n 0, 1) := by decide +kernel
theorem d189_11 : decode (zB 189) 11 = .ok (.iload_n 2, 1) := by decide +kernel
theorem d189_12 : decode (zB 189) 12 = .ok (.iaload, 1) := by decide +kernel
theorem d189_13 : decode (zB 189) 13 = .ok (.iastore, 1) := by decide +kernel
theorem d189_14 : decode (zB 189) 14 = .ok (.iinc 2 1, 3) := by decide +kernel
theorem d189_17 : decode (zB 189) 17 = .ok (.goto (-15), 3) := by decide +kernel
theorem d189_20 : decode (zB 189) 20 = .ok (.return_, 1) := by decide +kernel
theorem d190_0 : decode (zB 190) 0 = .ok (.aload_n 0, 1) := by decide +kernel
theorem d190_1 : decode (zB 190) 1 = .ok (.aload_n 0, 1) := by decide +kernel
theorem d190_2 : decode (zB 190) 2 = .ok (.getfield 162, 3) := by decide +kernel
theorem d190_5 : decode (zB 190) 5 = .ok (.putfield 336, 3) := by decide +kernel
theorem d190_8 : decode (zB 190) 8 = .ok (.aload_n 0, 1) := by decide +kernel
theorem d190_9 : decode (zB 190) 9 = .ok (.aload_n 0, 1) := by decide +kernel
theorem d190_10 : decode (zB 190) 10 = .ok (.getfield 173, 3) := by decide +kernel
theorem d190_13 : decode (zB 190) 13 = .ok (.putfield 339, 3) := by decide +kernel
theorem d190_16 : decode (zB 190) 16 = .ok (.aload_n 0, 1) := by decide +kernel
theorem d190_17 : decode (zB 190) 17 = .ok (.getfield 22, 3) := by decide +kernel
theorem d190_20 : decode (zB 190) 20 = .ok (.aload_n 0, 1) := by decide +kernel
theorem d190_21 : decode (zB 190) 21 = .ok (.getfield 77, 3) := by decide +kernel
theorem d190_24 : decode (zB 190) 24 = .ok (.invokestatic 342, 3) := by decide +kernel
theorem d190_27 : decode (zB 190) 27 = .ok (.aload_n 0, 1) := by decide +kernel
theorem d190_28 : decode (zB 190) 28 = .ok (.getfield 19, 3) := by decide +kernel
theorem d190_31 : decode (zB 190) 31 = .ok (.aload_n 0, 1) := by decide +kernel
theorem d190_32 : decode (zB 190) 32 = .ok (.getfield 80, 3) := by decide +kernel
theorem d190_35 : decode (zB 190) 35 = .ok (.invokestatic 342, 3) := by decide +kernel
theorem d190_38 : decode (zB 190) 38 = .ok (.return_, 1) := by decide +kernel
theorem d191_0 : decode (zB 191) 0 = .ok (.aload_n 0, 1) := by decide +kernel
theorem d191_1 : decode (zB 191) 1 = .ok (.aload_n 0, 1) := by decide +kernel
theorem d191_2 : decode (zB 191) 2 = .ok (.getfield 336, 3) := by decide +kernel
theorem d191_5 : decode (zB 191) 5 = .ok (.putfield 162, 3) := by decide +kernel
theorem d191_8 : decode (zB 191) 8 = .ok (.aload_n 0, 1) := by decide +kernel
theorem d191_9 : decode (zB 191) 9 = .ok (.aload_n 0, 1) := by decide +kernel
theorem d191_10 : decode (zB 191) 10 = .ok (.getfield 339, 3) := by decide +kernel
theorem d191_13 : decode (zB 191) 13 = .ok (.putfield 173, 3) := by decide +kernel
theorem d191_16 : decode (zB 191) 16 = .ok (.aload_n 0, 1) := by decide +kernel
theorem d191_17 : decode (zB 191) 17 = .ok (.getfield 77, 3) := by decide +kernel
theorem d191_20 : decode (zB 191) 20 = .ok (.aload_n 0, 1) := by decide +kernel
theorem d191_21 : decode (zB 191) 21 = .ok (.getfield 22, 3) := by decide +kernel
theorem d191_24 : decode (zB 191) 24 = .ok (.invokestatic 342, 3) := by decide +kernel
theorem d191_27 : decode (zB 191) 27 = .ok (.aload_n 0, 1) := by decide +kernel
theorem d191_28 : decode (zB 191) 28 = .ok (.getfield 80, 3) := by decide +kernel
theorem d191_31 : decode (zB 191) 31 = .ok (.aload_n 0, 1) := by decide +kernel
theorem d191_32 : decode (zB 191) 32 = .ok (.getfield 19, 3) := by decide +kernel
theorem d191_35 : decode (zB 191) 35 = .ok (.invokestatic 342, 3) := by decide +kernel
theorem d191_38 : decode (zB 191) 38 = .ok (.return_, 1) := by decide +kernel
theorem d192_0 : decode (zB 192) 0 = .ok (.iload_n 1, 1) := by decide +kernel
theorem d192_1 : decode (zB 192) 1 = .ok (.aload_n 0, 1) := by decide +kernel
theorem d192_2 : decode (zB 192) 2 = .ok (.getfield 162, 3) := by decide +kernel
theorem d192_5 : decode (zB 192) 5 = .ok (.if_icmp .ne 11, 3) := by decide +kernel
theorem d192_8 : decode (zB 192) 8 = .ok (.iload_n 1, 1) := by decide +kernel
theorem d192_9 : decode (zB 192) 9 = .ok (.aload_n 0, 1) := by decide +kernel
theorem d192_10 : decode (zB 192) 10 = .ok (.getfield 183, 3) := by decide +kernel
theorem d192_13 : decode (zB 192) 13 = .ok (.if_icmp .le 5, 3) := by decide +kernel
theorem d192_16 : decode (zB 192) 16 = .ok (.iconst 0, 1) := by decide +kernel
theorem d192_17 : decode (zB 192) 17 = .ok (.ireturn, 1) := by decide +kernel
theorem d192_18 : decode (zB 192) 18 = .ok (.aload_n 0, 1) := by decide +kernel
theorem d192_19 : decode (zB 192) 19 = .ok (.iconst 0, 1) := by decide +kernel
theorem d192_20 : decode (zB 192) 20 = .ok (.putfield 183, 3) := by decide +kernel
theorem d192_23 : decode (zB 192) 23 = .ok (.iconst 0, 1) := by decide +kernel
theorem d192_24 : decode (zB 192) 24 = .ok (.istore_n 2, 1) := by decide +kernel
theorem d192_25 : decode (zB 192) 25 = .ok (.iconst 0, 1) := by decide +kernel
theorem d192_26 : decode (zB 192) 26 = .ok (.istore_n 3, 1) := by decide +kernel
theorem d192_27 : decode (zB 192) 27 = .ok (.iload_n 3, 1) := by decide +kernel
theorem d192_28 : decode (zB 192) 28 = .ok (.iload_n 1, 1) := by decide +kernel
theorem d192_29 : decode (zB 192) 29 = .ok (.if_icmp .ge 54, 3) := by decide +kernel
theorem d192_32 : decode (zB 192) 32 = .ok (.aload_n 0, 1) := by decide +kernel
theorem d192_33 : decode (zB 192) 33 = .ok (.getfield 28, 3) := by decide +kernel
theorem d192_36 : decode (zB 192) 36 = .ok (.iload_n 3, 1) := by decide +kernel
theorem d192_37 : decode (zB 192) 37 = .ok (.baload, 1) := by decide +kernel
theorem d192_38 : decode (zB 192) 38 = .ok (.istore 4, 2) := by decide +kernel
theorem d192_40 : decode (zB 192) 40 = .ok (.aload_n 0, 1) := by decide +kernel
theorem d192_41 : decode (zB 192) 41 = .ok (.iload 4, 2) := by decide +kernel
theorem d192_43 : decode (zB 192) 43 = .ok (.invokevirtual 346, 3) := by decide +kernel
theorem d192_46 : decode (zB 192) 46 = .ok (.ifCond .eq 22, 3) := by decide +kernel
theorem d192_49 : decode (zB 192) 49 = .ok (.aload_n 0, 1) := by decide +kernel
theorem d192_50 : decode (zB 192) 50 = .ok (.iload 4, 2) := by decide +kernel
theorem d192_52 : decode (zB 192) 52 = .ok (.invokevirtual 349, 3) := by decide +kernel
theorem d192_55 : decode (zB 192) 55 = .ok (.iconst (-1), 1) := by decide +kernel
theorem d192_56 : decode (zB 192) 56 = .ok (.if_icmp .eq 12, 3) := by decide +kernel
theorem d192_59 : decode (zB 192) 59 = .ok (.iload_n 2, 1) := by decide +kernel
theorem d192_60 : decode (zB 192) 60 = .ok (.iload 4, 2) := by decide +kernel
theorem d192_62 : decode (zB 192) 62 = .ok (.invokestatic 300, 3) := by decide +kernel
theorem d192_65 : decode (zB 192) 65 = .ok (.ifCond .eq 5, 3) := by decide +kernel
theorem d192_68 : decode (zB 192) 68 = .ok (.iconst 0, 1) := by decide +kernel
theorem d192_69 : decode (zB 192) 69 = .ok (.ireturn, 1) := by decide +kernel
theorem d192_70 : decode (zB 192) 70 = .ok (.iload_n 2, 1) := by decide +kernel
theorem d192_71 : decode (zB 192) 71 = .ok (.iconst 1, 1) := by decide +kernel
theorem d192_72 : decode (zB 192) 72 = .ok (.iload 4, 2) := by decide +kernel
theorem d192_74 : decode (zB 192) 74 = .ok (.ishl, 1) := by decide +kernel
theorem d192_75 : decode (zB 192) 75 = .ok (.ior, 1) := by decide +kernel
theorem d192_76 : decode (zB 192) 76 = .ok (.istore_n 2, 1) := by decide +kernel
theorem d192_77 : decode (zB 192) 77 = .ok (.iinc 3 1, 3) := by decide +kernel
theorem d192_80 : decode (zB 192) 80 = .ok (.goto (-53), 3) := by decide +kernel
theorem d192_83 : decode (zB 192) 83 = .ok (.iconst 0, 1) := by decide +kernel
theorem d192_84 : decode (zB 192) 84 = .ok (.istore_n 3, 1) := by decide +kernel
theorem d192_85 : decode (zB 192) 85 = .ok (.iload_n 3, 1) := by decide +kernel
theorem d192_86 : decode (zB 192) 86 = .ok (.iload_n 1, 1) := by decide +kernel
theorem d192_87 : decode (zB 192) 87 = .ok (.if_icmp .ge 21, 3) := by decide +kernel
theorem d192_90 : decode (zB 192) 90 = .ok (.aload_n 0, 1) := by decide +kernel
theorem d192_91 : decode (zB 192) 91 = .ok (.getfield 22, 3) := by decide +kernel
theorem d192_94 : decode (zB 192) 94 = .ok (.iload_n 3, 1) := by decide +kernel
theorem d192_95 : decode (zB 192) 95 = .ok (.aload_n 0, 1) := by decide +kernel
theorem d192_96 : decode (zB 192) 96 = .ok (.getfield 28, 3) := by decide +kernel
theorem d192_99 : decode (zB 192) 99 = .ok (.iload_n 3, 1) := by decide +kernel
theorem d192_100 : decode (zB 192) 100 = .ok (.baload, 1) := by decide +kernel
theorem d192_101 : decode (zB 192) 101 = .ok (.iastore, 1) := by decide +kernel
theorem d192_102 : decode (zB 192) 102 = .ok (.iinc 3 1, 3) := by decide +kernel
theorem d192_105 : decode (zB 192) 105 = .ok (.goto (-20), 3) := by decide +kernel
theorem d192_108 : decode (zB 192) 108 = .ok (.iconst 1, 1) := by decide +kernel
theorem d192_109 : decode (zB 192) 109 = .ok (.ireturn, 1) := by decide +kernel
theorem d193_0 : decode (zB 193) 0 = .ok (.aload_n 0, 1) := by decide +kernel
theorem d193_1 : decode (zB 193) 1 = .ok (.iload_n 1, 1) := by decide +kernel
theorem d193_2 : decode (zB 193) 2 = .ok (.invokevirtual 346, 3) := by decide +kernel
theorem d193_5 : decode (zB 193) 5 = .ok (.ifCond .ne 5, 3) := by decide +kernel
theorem d193_8 : decode (zB 193) 8 = .ok (.iconst (-1), 1) := by decide +kernel
theorem d193_9 : decode (zB 193) 9 = .ok (.ireturn, 1) := by decide +kernel
theorem d193_10 : decode (zB 193) 10 = .ok (.aload_n 0, 1) := by decide +kernel
theorem d193_11 : decode (zB 193) 11 = .ok (.iload_n 1, 1) := by decide +kernel
theorem d193_12 : decode (zB 193) 12 = .ok (.invokevirtual 349, 3) := by decide +kernel
theorem d193_15 : decode (zB 193) 15 = .ok (.istore_n 3, 1) := by decide +kernel
theorem d193_16 : decode (zB 193) 16 = .ok (.iload_n 2, 1) := by decide +kernel
theorem d193_17 : decode (zB 193) 17 = .ok (.tableswitch 92 0 4 #[35, 42, 49, 61, 68], 35) := by decide +kernel
theorem d193_52 : decode (zB 193) 52 = .ok (.aload_n 0, 1) := by decide +kernel
theorem d193_53 : decode (zB 193) 53 = .ok (.getfield 7, 3) := by decide +kernel
theorem d193_56 : decode (zB 193) 56 = .ok (.iload_n 1, 1) := by decide +kernel
theorem d193_57 : decode (zB 193) 57 = .ok (.iaload, 1) := by decide +kernel
theorem d193_58 : decode (zB 193) 58 = .ok (.ireturn, 1) := by decide +kernel
theorem d193_59 : decode (zB 193) 59 = .ok (.aload_n 0, 1) := by decide +kernel
theorem d193_60 : decode (zB 193) 60 = .ok (.getfield 13, 3) := by decide +kernel
theorem d193_63 : decode (zB 193) 63 = .ok (.iload_n 1, 1) := by decide +kernel
theorem d193_64 : decode (zB 193) 64 = .ok (.iaload, 1) := by decide +kernel
theorem d193_65 : decode (zB 193) 65 = .ok (.ireturn, 1) := by decide +kernel
theorem d193_66 : decode (zB 193) 66 = .ok (.iload_n 3, 1) := by decide +kernel
theorem d193_67 : decode (zB 193) 67 = .ok (.iconst (-1), 1) := by decide +kernel
theorem d193_68 : decode (zB 193) 68 = .ok (.if_icmp .ne 8, 3) := by decide +kernel
theorem d193_71 : decode (zB 193) 71 = .ok (.bipush (-2), 2) := by decide +kernel
theorem d193_73 : decode (zB 193) 73 = .ok (.goto 4, 3) := by decide +kernel
theorem d193_76 : decode (zB 193) 76 = .ok (.iload_n 3, 1) := by decide +kernel
theorem d193_77 : decode (zB 193) 77 = .ok (.ireturn, 1) := by decide +kernel
theorem d193_78 : decode (zB 193) 78 = .ok (.aload_n 0, 1) := by decide +kernel
theorem d193_79 : decode (zB 193) 79 = .ok (.getfield 19, 3) := by decide +kernel
theorem d193_82 : decode (zB 193) 82 = .ok (.iload_n 1, 1) := by decide +kernel
theorem d193_83 : decode (zB 193) 83 = .ok (.iaload, 1) := by decide +kernel
theorem d193_84 : decode (zB 193) 84 = .ok (.ireturn, 1) := by decide +kernel
theorem d193_85 : decode (zB 193) 85 = .ok (.iload_n 3, 1) := by decide +kernel
theorem d193_86 : decode (zB 193) 86 = .ok (.iconst (-1), 1) := by decide +kernel
theorem d193_87 : decode (zB 193) 87 = .ok (.if_icmp .eq 11, 3) := by decide +kernel
theorem d193_90 : decode (zB 193) 90 = .ok (.aload_n 0, 1) := by decide +kernel
theorem d193_91 : decode (zB 193) 91 = .ok (.iload_n 3, 1) := by decide +kernel
theorem d193_92 : decode (zB 193) 92 = .ok (.invokevirtual 303, 3) := by decide +kernel
theorem d193_95 : decode (zB 193) 95 = .ok (.ifCond .eq 8, 3) := by decide +kernel
theorem d193_98 : decode (zB 193) 98 = .ok (.bipush (-2), 2) := by decide +kernel
theorem d193_100 : decode (zB 193) 100 = .ok (.goto 8, 3) := by decide +kernel
theorem d193_103 : decode (zB 193) 103 = .ok (.aload_n 0, 1) := by decide +kernel
theorem d193_104 : decode (zB 193) 104 = .ok (.iload_n 3, 1) := by decide +kernel
theorem d193_105 : decode (zB 193) 105 = .ok (.invokevirtual 306, 3) := by decide +kernel
theorem d193_108 : decode (zB 193) 108 = .ok (.ireturn, 1) := by decide +kernel
theorem d193_109 : decode (zB 193) 109 = .ok (.iconst (-1), 1) := by decide +kernel
theorem d193_110 : decode (zB 193) 110 = .ok (.ireturn, 1) := by decide +kernel
