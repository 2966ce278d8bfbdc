/-! instructions by their places, laid by wip/whole/wp.py -/
theorem d_188_12 : xcode 188 12 = some (.aload_n 0, 1) := by decide +kernel
theorem d_188_13 : xcode 188 13 = some (.bipush 117, 2) := by decide +kernel
theorem d_188_15 : xcode 188 15 = some (.newarray .long, 2) := by decide +kernel
theorem d_188_17 : xcode 188 17 = some (.putfield 13, 3) := by decide +kernel
theorem d_188_20 : xcode 188 20 = some (.aload_n 0, 1) := by decide +kernel
theorem d_188_21 : xcode 188 21 = some (.bipush 39, 2) := by decide +kernel
theorem d_188_23 : xcode 188 23 = some (.newarray .int, 2) := by decide +kernel
theorem d_188_25 : xcode 188 25 = some (.putfield 16, 3) := by decide +kernel
theorem d_188_28 : xcode 188 28 = some (.aload_n 0, 1) := by decide +kernel
theorem d_188_29 : xcode 188 29 = some (.iconst (-1), 1) := by decide +kernel
theorem d_188_30 : xcode 188 30 = some (.putfield 20, 3) := by decide +kernel
theorem d_188_33 : xcode 188 33 = some (.aload_n 0, 1) := by decide +kernel
theorem d_188_34 : xcode 188 34 = some (.sipush 1680, 3) := by decide +kernel
theorem d_188_37 : xcode 188 37 = some (.newarray .long, 2) := by decide +kernel
theorem d_188_39 : xcode 188 39 = some (.putfield 24, 3) := by decide +kernel
theorem d_188_42 : xcode 188 42 = some (.aload_n 0, 1) := by decide +kernel
theorem d_188_43 : xcode 188 43 = some (.bipush 46, 2) := by decide +kernel
theorem d_188_45 : xcode 188 45 = some (.newarray .int, 2) := by decide +kernel
theorem d_188_47 : xcode 188 47 = some (.putfield 27, 3) := by decide +kernel
theorem d_188_50 : xcode 188 50 = some (.aload_n 0, 1) := by decide +kernel
theorem d_188_51 : xcode 188 51 = some (.bipush 40, 2) := by decide +kernel
theorem d_188_53 : xcode 188 53 = some (.newarray .long, 2) := by decide +kernel
theorem d_188_55 : xcode 188 55 = some (.putfield 30, 3) := by decide +kernel
theorem d_188_58 : xcode 188 58 = some (.aload_n 0, 1) := by decide +kernel
theorem d_188_59 : xcode 188 59 = some (.bipush 40, 2) := by decide +kernel
theorem d_188_61 : xcode 188 61 = some (.newarray .long, 2) := by decide +kernel
theorem d_188_63 : xcode 188 63 = some (.putfield 33, 3) := by decide +kernel
theorem d_188_66 : xcode 188 66 = some (.aload_n 0, 1) := by decide +kernel
theorem d_188_67 : xcode 188 67 = some (.bipush 63, 2) := by decide +kernel
theorem d_188_69 : xcode 188 69 = some (.newarray .int, 2) := by decide +kernel
theorem d_188_71 : xcode 188 71 = some (.putfield 36, 3) := by decide +kernel
theorem d_188_74 : xcode 188 74 = some (.aload_n 0, 1) := by decide +kernel
theorem d_188_75 : xcode 188 75 = some (.bipush 117, 2) := by decide +kernel
theorem d_188_77 : xcode 188 77 = some (.newarray .long, 2) := by decide +kernel
theorem d_188_79 : xcode 188 79 = some (.putfield 39, 3) := by decide +kernel
theorem d_188_82 : xcode 188 82 = some (.aload_n 0, 1) := by decide +kernel
theorem d_188_83 : xcode 188 83 = some (.sipush 200, 3) := by decide +kernel
theorem d_188_86 : xcode 188 86 = some (.newarray .int, 2) := by decide +kernel
theorem d_188_88 : xcode 188 88 = some (.putfield 42, 3) := by decide +kernel
theorem d_188_91 : xcode 188 91 = some (.aload_n 0, 1) := by decide +kernel
theorem d_188_92 : xcode 188 92 = some (.sipush 200, 3) := by decide +kernel
theorem d_188_95 : xcode 188 95 = some (.newarray .int, 2) := by decide +kernel
theorem d_188_97 : xcode 188 97 = some (.putfield 45, 3) := by decide +kernel
theorem d_188_100 : xcode 188 100 = some (.aload_n 0, 1) := by decide +kernel
theorem d_188_101 : xcode 188 101 = some (.sipush 200, 3) := by decide +kernel
theorem d_188_104 : xcode 188 104 = some (.newarray .int, 2) := by decide +kernel
theorem d_188_106 : xcode 188 106 = some (.putfield 48, 3) := by decide +kernel
theorem d_188_109 : xcode 188 109 = some (.aload_n 0, 1) := by decide +kernel
theorem d_188_110 : xcode 188 110 = some (.sipush 200, 3) := by decide +kernel
theorem d_188_113 : xcode 188 113 = some (.newarray .int, 2) := by decide +kernel
theorem d_188_115 : xcode 188 115 = some (.putfield 51, 3) := by decide +kernel
theorem d_188_118 : xcode 188 118 = some (.aload_n 0, 1) := by decide +kernel
theorem d_188_119 : xcode 188 119 = some (.iconst 5, 1) := by decide +kernel
theorem d_188_120 : xcode 188 120 = some (.newarray .int, 2) := by decide +kernel
theorem d_188_122 : xcode 188 122 = some (.dup, 1) := by decide +kernel
theorem d_188_123 : xcode 188 123 = some (.iconst 0, 1) := by decide +kernel
theorem d_188_124 : xcode 188 124 = some (.bipush 30, 2) := by decide +kernel
theorem d_188_126 : xcode 188 126 = some (.iastore, 1) := by decide +kernel
theorem d_188_127 : xcode 188 127 = some (.dup, 1) := by decide +kernel
theorem d_188_128 : xcode 188 128 = some (.iconst 1, 1) := by decide +kernel
theorem d_188_129 : xcode 188 129 = some (.bipush (-15), 2) := by decide +kernel
theorem d_188_131 : xcode 188 131 = some (.iastore, 1) := by decide +kernel
theorem d_188_132 : xcode 188 132 = some (.dup, 1) := by decide +kernel
theorem d_188_133 : xcode 188 133 = some (.iconst 2, 1) := by decide +kernel
theorem d_188_134 : xcode 188 134 = some (.iconst 5, 1) := by decide +kernel
theorem d_188_135 : xcode 188 135 = some (.iastore, 1) := by decide +kernel
theorem d_188_136 : xcode 188 136 = some (.dup, 1) := by decide +kernel
theorem d_188_137 : xcode 188 137 = some (.iconst 3, 1) := by decide +kernel
theorem d_188_138 : xcode 188 138 = some (.iconst 0, 1) := by decide +kernel
theorem d_188_139 : xcode 188 139 = some (.iastore, 1) := by decide +kernel
theorem d_188_140 : xcode 188 140 = some (.dup, 1) := by decide +kernel
theorem d_188_141 : xcode 188 141 = some (.iconst 4, 1) := by decide +kernel
theorem d_188_142 : xcode 188 142 = some (.iconst (-1), 1) := by decide +kernel
theorem d_188_143 : xcode 188 143 = some (.iastore, 1) := by decide +kernel
theorem d_188_144 : xcode 188 144 = some (.putfield 54, 3) := by decide +kernel
theorem d_188_147 : xcode 188 147 = some (.aload_n 0, 1) := by decide +kernel
theorem d_188_148 : xcode 188 148 = some (.bipush 27, 2) := by decide +kernel
theorem d_188_150 : xcode 188 150 = some (.newarray .long, 2) := by decide +kernel
theorem d_188_152 : xcode 188 152 = some (.putfield 57, 3) := by decide +kernel
theorem d_188_155 : xcode 188 155 = some (.aload_n 0, 1) := by decide +kernel
theorem d_188_156 : xcode 188 156 = some (.bipush 27, 2) := by decide +kernel
theorem d_188_158 : xcode 188 158 = some (.newarray .long, 2) := by decide +kernel
theorem d_188_160 : xcode 188 160 = some (.putfield 60, 3) := by decide +kernel
theorem d_188_163 : xcode 188 163 = some (.aload_n 0, 1) := by decide +kernel
theorem d_188_164 : xcode 188 164 = some (.bipush 32, 2) := by decide +kernel
theorem d_188_166 : xcode 188 166 = some (.newarray .long, 2) := by decide +kernel
theorem d_188_168 : xcode 188 168 = some (.putfield 63, 3) := by decide +kernel
theorem d_188_171 : xcode 188 171 = some (.aload_n 0, 1) := by decide +kernel
theorem d_188_172 : xcode 188 172 = some (.bipush 32, 2) := by decide +kernel
theorem d_188_174 : xcode 188 174 = some (.newarray .long, 2) := by decide +kernel
theorem d_188_176 : xcode 188 176 = some (.putfield 66, 3) := by decide +kernel
theorem d_188_179 : xcode 188 179 = some (.aload_n 0, 1) := by decide +kernel
theorem d_188_180 : xcode 188 180 = some (.bipush 26, 2) := by decide +kernel
theorem d_188_182 : xcode 188 182 = some (.newarray .long, 2) := by decide +kernel
theorem d_188_184 : xcode 188 184 = some (.putfield 69, 3) := by decide +kernel
theorem d_188_187 : xcode 188 187 = some (.aload_n 0, 1) := by decide +kernel
theorem d_188_188 : xcode 188 188 = some (.bipush 32, 2) := by decide +kernel
theorem d_188_190 : xcode 188 190 = some (.newarray .long, 2) := by decide +kernel
theorem d_188_192 : xcode 188 192 = some (.putfield 72, 3) := by decide +kernel
theorem d_188_195 : xcode 188 195 = some (.aload_n 0, 1) := by decide +kernel
theorem d_188_196 : xcode 188 196 = some (.bipush 9, 2) := by decide +kernel
theorem d_188_198 : xcode 188 198 = some (.newarray .long, 2) := by decide +kernel
theorem d_188_200 : xcode 188 200 = some (.putfield 75, 3) := by decide +kernel
theorem d_188_203 : xcode 188 203 = some (.aload_n 0, 1) := by decide +kernel
theorem d_188_204 : xcode 188 204 = some (.bipush 9, 2) := by decide +kernel
theorem d_188_206 : xcode 188 206 = some (.newarray .long, 2) := by decide +kernel
theorem d_188_208 : xcode 188 208 = some (.putfield 78, 3) := by decide +kernel
theorem d_188_211 : xcode 188 211 = some (.aload_n 0, 1) := by decide +kernel
theorem d_188_212 : xcode 188 212 = some (.iconst 3, 1) := by decide +kernel
theorem d_188_213 : xcode 188 213 = some (.newarray .long, 2) := by decide +kernel
theorem d_188_215 : xcode 188 215 = some (.putfield 81, 3) := by decide +kernel
theorem d_188_218 : xcode 188 218 = some (.aload_n 0, 1) := by decide +kernel
theorem d_188_219 : xcode 188 219 = some (.bipush 39, 2) := by decide +kernel
theorem d_188_221 : xcode 188 221 = some (.newarray .int, 2) := by decide +kernel
theorem d_188_223 : xcode 188 223 = some (.putfield 84, 3) := by decide +kernel
theorem d_188_226 : xcode 188 226 = some (.aload_n 0, 1) := by decide +kernel
theorem d_188_227 : xcode 188 227 = some (.bipush 32, 2) := by decide +kernel
theorem d_188_229 : xcode 188 229 = some (.newarray .long, 2) := by decide +kernel
theorem d_188_231 : xcode 188 231 = some (.putfield 87, 3) := by decide +kernel
theorem d_188_234 : xcode 188 234 = some (.aload_n 0, 1) := by decide +kernel
theorem d_188_235 : xcode 188 235 = some (.bipush 24, 2) := by decide +kernel
theorem d_188_237 : xcode 188 237 = some (.newarray .long, 2) := by decide +kernel
theorem d_188_239 : xcode 188 239 = some (.putfield 90, 3) := by decide +kernel
theorem d_188_242 : xcode 188 242 = some (.aload_n 0, 1) := by decide +kernel
theorem d_188_243 : xcode 188 243 = some (.bipush 24, 2) := by decide +kernel
theorem d_188_245 : xcode 188 245 = some (.newarray .long, 2) := by decide +kernel
theorem d_188_247 : xcode 188 247 = some (.putfield 93, 3) := by decide +kernel
theorem d_188_250 : xcode 188 250 = some (.iconst 0, 1) := by decide +kernel
theorem d_188_251 : xcode 188 251 = some (.istore_n 1, 1) := by decide +kernel
theorem d_188_252 : xcode 188 252 = some (.iload_n 1, 1) := by decide +kernel
theorem d_188_253 : xcode 188 253 = some (.bipush 42, 2) := by decide +kernel
theorem d_188_255 : xcode 188 255 = some (.if_icmp .ge 78, 3) := by decide +kernel
theorem d_188_258 : xcode 188 258 = some (.aload_n 0, 1) := by decide +kernel
theorem d_188_259 : xcode 188 259 = some (.getfield 24, 3) := by decide +kernel
theorem d_188_262 : xcode 188 262 = some (.bipush 40, 2) := by decide +kernel
theorem d_188_264 : xcode 188 264 = some (.iload_n 1, 1) := by decide +kernel
theorem d_188_265 : xcode 188 265 = some (.imul, 1) := by decide +kernel
theorem d_188_266 : xcode 188 266 = some (.lconst 1, 1) := by decide +kernel
theorem d_188_267 : xcode 188 267 = some (.lastore, 1) := by decide +kernel
theorem d_188_268 : xcode 188 268 = some (.iconst 1, 1) := by decide +kernel
theorem d_188_269 : xcode 188 269 = some (.istore_n 2, 1) := by decide +kernel
theorem d_188_270 : xcode 188 270 = some (.iload_n 2, 1) := by decide +kernel
theorem d_188_271 : xcode 188 271 = some (.iload_n 1, 1) := by decide +kernel
theorem d_188_272 : xcode 188 272 = some (.if_icmp .gt 55, 3) := by decide +kernel
theorem d_188_275 : xcode 188 275 = some (.iload_n 2, 1) := by decide +kernel
theorem d_188_276 : xcode 188 276 = some (.bipush 40, 2) := by decide +kernel
theorem d_188_278 : xcode 188 278 = some (.if_icmp .ge 49, 3) := by decide +kernel
theorem d_188_281 : xcode 188 281 = some (.aload_n 0, 1) := by decide +kernel
theorem d_188_282 : xcode 188 282 = some (.getfield 24, 3) := by decide +kernel
theorem d_188_285 : xcode 188 285 = some (.bipush 40, 2) := by decide +kernel
theorem d_188_287 : xcode 188 287 = some (.iload_n 1, 1) := by decide +kernel
theorem d_188_288 : xcode 188 288 = some (.imul, 1) := by decide +kernel
theorem d_188_289 : xcode 188 289 = some (.iload_n 2, 1) := by decide +kernel
theorem d_188_290 : xcode 188 290 = some (.iadd, 1) := by decide +kernel
theorem d_188_291 : xcode 188 291 = some (.aload_n 0, 1) := by decide +kernel
theorem d_188_292 : xcode 188 292 = some (.getfield 24, 3) := by decide +kernel
theorem d_188_295 : xcode 188 295 = some (.bipush 40, 2) := by decide +kernel
theorem d_188_297 : xcode 188 297 = some (.iload_n 1, 1) := by decide +kernel
theorem d_188_298 : xcode 188 298 = some (.iconst 1, 1) := by decide +kernel
theorem d_188_299 : xcode 188 299 = some (.isub, 1) := by decide +kernel
theorem d_188_300 : xcode 188 300 = some (.imul, 1) := by decide +kernel
theorem d_188_301 : xcode 188 301 = some (.iload_n 2, 1) := by decide +kernel
theorem d_188_302 : xcode 188 302 = some (.iadd, 1) := by decide +kernel
theorem d_188_303 : xcode 188 303 = some (.iconst 1, 1) := by decide +kernel
theorem d_188_304 : xcode 188 304 = some (.isub, 1) := by decide +kernel
theorem d_188_305 : xcode 188 305 = some (.laload, 1) := by decide +kernel
theorem d_188_306 : xcode 188 306 = some (.aload_n 0, 1) := by decide +kernel
theorem d_188_307 : xcode 188 307 = some (.getfield 24, 3) := by decide +kernel
theorem d_188_310 : xcode 188 310 = some (.bipush 40, 2) := by decide +kernel
theorem d_188_312 : xcode 188 312 = some (.iload_n 1, 1) := by decide +kernel
theorem d_188_313 : xcode 188 313 = some (.iconst 1, 1) := by decide +kernel
theorem d_188_314 : xcode 188 314 = some (.isub, 1) := by decide +kernel
theorem d_188_315 : xcode 188 315 = some (.imul, 1) := by decide +kernel
theorem d_188_316 : xcode 188 316 = some (.iload_n 2, 1) := by decide +kernel
theorem d_188_317 : xcode 188 317 = some (.iadd, 1) := by decide +kernel
theorem d_188_318 : xcode 188 318 = some (.laload, 1) := by decide +kernel
theorem d_188_319 : xcode 188 319 = some (.ladd, 1) := by decide +kernel
theorem d_188_320 : xcode 188 320 = some (.lastore, 1) := by decide +kernel
theorem d_188_321 : xcode 188 321 = some (.iinc 2 1, 3) := by decide +kernel
theorem d_188_324 : xcode 188 324 = some (.goto (-54), 3) := by decide +kernel
theorem d_188_327 : xcode 188 327 = some (.iinc 1 1, 3) := by decide +kernel
theorem d_188_330 : xcode 188 330 = some (.goto (-78), 3) := by decide +kernel
theorem d_188_333 : xcode 188 333 = some (.iconst 2, 1) := by decide +kernel
theorem d_188_334 : xcode 188 334 = some (.istore_n 1, 1) := by decide +kernel
theorem d_188_335 : xcode 188 335 = some (.iload_n 1, 1) := by decide +kernel
theorem d_188_336 : xcode 188 336 = some (.sipush 200, 3) := by decide +kernel
theorem d_188_339 : xcode 188 339 = some (.if_icmp .ge 66, 3) := by decide +kernel
theorem d_188_342 : xcode 188 342 = some (.iconst 1, 1) := by decide +kernel
theorem d_188_343 : xcode 188 343 = some (.istore_n 2, 1) := by decide +kernel
theorem d_188_344 : xcode 188 344 = some (.iconst 2, 1) := by decide +kernel
theorem d_188_345 : xcode 188 345 = some (.istore_n 3, 1) := by decide +kernel
theorem d_188_346 : xcode 188 346 = some (.iload_n 3, 1) := by decide +kernel
theorem d_188_347 : xcode 188 347 = some (.iload_n 3, 1) := by decide +kernel
theorem d_188_348 : xcode 188 348 = some (.imul, 1) := by decide +kernel
theorem d_188_349 : xcode 188 349 = some (.iload_n 1, 1) := by decide +kernel
theorem d_188_350 : xcode 188 350 = some (.if_icmp .gt 25, 3) := by decide +kernel
theorem d_188_353 : xcode 188 353 = some (.iload_n 2, 1) := by decide +kernel
theorem d_188_354 : xcode 188 354 = some (.ifCond .eq 13, 3) := by decide +kernel
theorem d_188_357 : xcode 188 357 = some (.iload_n 1, 1) := by decide +kernel
theorem d_188_358 : xcode 188 358 = some (.iload_n 3, 1) := by decide +kernel
theorem d_188_359 : xcode 188 359 = some (.irem, 1) := by decide +kernel
theorem d_188_360 : xcode 188 360 = some (.ifCond .eq 7, 3) := by decide +kernel
theorem d_188_363 : xcode 188 363 = some (.iconst 1, 1) := by decide +kernel
theorem d_188_364 : xcode 188 364 = some (.goto 4, 3) := by decide +kernel
theorem d_188_367 : xcode 188 367 = some (.iconst 0, 1) := by decide +kernel
theorem d_188_368 : xcode 188 368 = some (.istore_n 2, 1) := by decide +kernel
theorem d_188_369 : xcode 188 369 = some (.iinc 3 1, 3) := by decide +kernel
theorem d_188_372 : xcode 188 372 = some (.goto (-26), 3) := by decide +kernel
theorem d_188_375 : xcode 188 375 = some (.iload_n 2, 1) := by decide +kernel
theorem d_188_376 : xcode 188 376 = some (.ifCond .eq 23, 3) := by decide +kernel
theorem d_188_379 : xcode 188 379 = some (.aload_n 0, 1) := by decide +kernel
theorem d_188_380 : xcode 188 380 = some (.getfield 27, 3) := by decide +kernel
theorem d_188_383 : xcode 188 383 = some (.aload_n 0, 1) := by decide +kernel
theorem d_188_384 : xcode 188 384 = some (.getfield 96, 3) := by decide +kernel
theorem d_188_387 : xcode 188 387 = some (.iload_n 1, 1) := by decide +kernel
theorem d_188_388 : xcode 188 388 = some (.iastore, 1) := by decide +kernel
theorem d_188_389 : xcode 188 389 = some (.aload_n 0, 1) := by decide +kernel
theorem d_188_390 : xcode 188 390 = some (.dup, 1) := by decide +kernel
theorem d_188_391 : xcode 188 391 = some (.getfield 96, 3) := by decide +kernel
theorem d_188_394 : xcode 188 394 = some (.iconst 1, 1) := by decide +kernel
theorem d_188_395 : xcode 188 395 = some (.iadd, 1) := by decide +kernel
theorem d_188_396 : xcode 188 396 = some (.putfield 96, 3) := by decide +kernel
theorem d_188_399 : xcode 188 399 = some (.iinc 1 1, 3) := by decide +kernel
theorem d_188_402 : xcode 188 402 = some (.goto (-67), 3) := by decide +kernel
theorem d_188_405 : xcode 188 405 = some (.aload_n 0, 1) := by decide +kernel
theorem d_188_406 : xcode 188 406 = some (.getfield 7, 3) := by decide +kernel
theorem d_188_409 : xcode 188 409 = some (.iconst 0, 1) := by decide +kernel
theorem d_188_410 : xcode 188 410 = some (.lconst 1, 1) := by decide +kernel
theorem d_188_411 : xcode 188 411 = some (.lconst 0, 1) := by decide +kernel
theorem d_188_412 : xcode 188 412 = some (.lconst 1, 1) := by decide +kernel
theorem d_188_413 : xcode 188 413 = some (.invokestatic 99, 3) := by decide +kernel
theorem d_188_416 : xcode 188 416 = some (.iconst 1, 1) := by decide +kernel
theorem d_188_417 : xcode 188 417 = some (.istore_n 1, 1) := by decide +kernel
theorem d_188_418 : xcode 188 418 = some (.iload_n 1, 1) := by decide +kernel
theorem d_188_419 : xcode 188 419 = some (.bipush 38, 2) := by decide +kernel
theorem d_188_421 : xcode 188 421 = some (.if_icmp .gt 45, 3) := by decide +kernel
theorem d_188_424 : xcode 188 424 = some (.aload_n 0, 1) := by decide +kernel
theorem d_188_425 : xcode 188 425 = some (.aload_n 0, 1) := by decide +kernel
theorem d_188_426 : xcode 188 426 = some (.getfield 7, 3) := by decide +kernel
theorem d_188_429 : xcode 188 429 = some (.iload_n 1, 1) := by decide +kernel
theorem d_188_430 : xcode 188 430 = some (.iconst 1, 1) := by decide +kernel
theorem d_188_431 : xcode 188 431 = some (.iadd, 1) := by decide +kernel
theorem d_188_432 : xcode 188 432 = some (.iload_n 1, 1) := by decide +kernel
theorem d_188_433 : xcode 188 433 = some (.iconst 1, 1) := by decide +kernel
theorem d_188_434 : xcode 188 434 = some (.isub, 1) := by decide +kernel
theorem d_188_435 : xcode 188 435 = some (.invokevirtual 103, 3) := by decide +kernel
theorem d_188_438 : xcode 188 438 = some (.aload_n 0, 1) := by decide +kernel
theorem d_188_439 : xcode 188 439 = some (.aload_n 0, 1) := by decide +kernel
theorem d_188_440 : xcode 188 440 = some (.getfield 7, 3) := by decide +kernel
theorem d_188_443 : xcode 188 443 = some (.iload_n 1, 1) := by decide +kernel
theorem d_188_444 : xcode 188 444 = some (.aload_n 0, 1) := by decide +kernel
theorem d_188_445 : xcode 188 445 = some (.getfield 107, 3) := by decide +kernel
theorem d_188_448 : xcode 188 448 = some (.lneg, 1) := by decide +kernel
theorem d_188_449 : xcode 188 449 = some (.aload_n 0, 1) := by decide +kernel
theorem d_188_450 : xcode 188 450 = some (.getfield 111, 3) := by decide +kernel
theorem d_188_453 : xcode 188 453 = some (.lneg, 1) := by decide +kernel
theorem d_188_454 : xcode 188 454 = some (.iload_n 1, 1) := by decide +kernel
theorem d_188_455 : xcode 188 455 = some (.iconst 1, 1) := by decide +kernel
theorem d_188_456 : xcode 188 456 = some (.iadd, 1) := by decide +kernel
theorem d_188_457 : xcode 188 457 = some (.invokevirtual 114, 3) := by decide +kernel
theorem d_188_460 : xcode 188 460 = some (.iinc 1 1, 3) := by decide +kernel
theorem d_188_463 : xcode 188 463 = some (.goto (-45), 3) := by decide +kernel
theorem d_188_466 : xcode 188 466 = some (.return_, 1) := by decide +kernel
theorem d_189_0 : xcode 189 0 = some (.aload_n 0, 1) := by decide +kernel
theorem d_189_1 : xcode 189 1 = some (.iconst 3, 1) := by decide +kernel
theorem d_189_2 : xcode 189 2 = some (.iload_n 1, 1) := by decide +kernel
theorem d_189_3 : xcode 189 3 = some (.imul, 1) := by decide +kernel
theorem d_189_4 : xcode 189 4 = some (.lload_n 2, 1) := by decide +kernel
theorem d_189_5 : xcode 189 5 = some (.lastore, 1) := by decide +kernel
theorem d_189_6 : xcode 189 6 = some (.aload_n 0, 1) := by decide +kernel
theorem d_189_7 : xcode 189 7 = some (.iconst 3, 1) := by decide +kernel
theorem d_189_8 : xcode 189 8 = some (.iload_n 1, 1) := by decide +kernel
theorem d_189_9 : xcode 189 9 = some (.imul, 1) := by decide +kernel
theorem d_189_10 : xcode 189 10 = some (.iconst 1, 1) := by decide +kernel
theorem d_189_11 : xcode 189 11 = some (.iadd, 1) := by decide +kernel
theorem d_189_12 : xcode 189 12 = some (.lload 4, 2) := by decide +kernel
theorem d_189_14 : xcode 189 14 = some (.lastore, 1) := by decide +kernel
theorem d_189_15 : xcode 189 15 = some (.aload_n 0, 1) := by decide +kernel
theorem d_189_16 : xcode 189 16 = some (.iconst 3, 1) := by decide +kernel
theorem d_189_17 : xcode 189 17 = some (.iload_n 1, 1) := by decide +kernel
theorem d_189_18 : xcode 189 18 = some (.imul, 1) := by decide +kernel
theorem d_189_19 : xcode 189 19 = some (.iconst 2, 1) := by decide +kernel
theorem d_189_20 : xcode 189 20 = some (.iadd, 1) := by decide +kernel
theorem d_189_21 : xcode 189 21 = some (.lload 6, 2) := by decide +kernel
theorem d_189_23 : xcode 189 23 = some (.lastore, 1) := by decide +kernel
theorem d_189_24 : xcode 189 24 = some (.return_, 1) := by decide +kernel
theorem d_190_0 : xcode 190 0 = some (.aload_n 0, 1) := by decide +kernel
theorem d_190_1 : xcode 190 1 = some (.lconst 0, 1) := by decide +kernel
theorem d_190_2 : xcode 190 2 = some (.putfield 107, 3) := by decide +kernel
theorem d_190_5 : xcode 190 5 = some (.aload_n 0, 1) := by decide +kernel
theorem d_190_6 : xcode 190 6 = some (.lconst 0, 1) := by decide +kernel
theorem d_190_7 : xcode 190 7 = some (.putfield 111, 3) := by decide +kernel
theorem d_190_10 : xcode 190 10 = some (.iconst 0, 1) := by decide +kernel
theorem d_190_11 : xcode 190 11 = some (.istore 4, 2) := by decide +kernel
theorem d_190_13 : xcode 190 13 = some (.iload 4, 2) := by decide +kernel
theorem d_190_15 : xcode 190 15 = some (.iload_n 3, 1) := by decide +kernel
theorem d_190_16 : xcode 190 16 = some (.if_icmp .gt 28, 3) := by decide +kernel
theorem d_190_19 : xcode 190 19 = some (.aload_n 0, 1) := by decide +kernel
theorem d_190_20 : xcode 190 20 = some (.aload_n 1, 1) := by decide +kernel
theorem d_190_21 : xcode 190 21 = some (.aload_n 0, 1) := by decide +kernel
theorem d_190_22 : xcode 190 22 = some (.getfield 24, 3) := by decide +kernel
theorem d_190_25 : xcode 190 25 = some (.bipush 40, 2) := by decide +kernel
theorem d_190_27 : xcode 190 27 = some (.iload_n 2, 1) := by decide +kernel
theorem d_190_28 : xcode 190 28 = some (.imul, 1) := by decide +kernel
theorem d_190_29 : xcode 190 29 = some (.iload 4, 2) := by decide +kernel
theorem d_190_31 : xcode 190 31 = some (.iadd, 1) := by decide +kernel
theorem d_190_32 : xcode 190 32 = some (.laload, 1) := by decide +kernel
theorem d_190_33 : xcode 190 33 = some (.iload 4, 2) := by decide +kernel
theorem d_190_35 : xcode 190 35 = some (.invokevirtual 127, 3) := by decide +kernel
theorem d_190_38 : xcode 190 38 = some (.iinc 4 1, 3) := by decide +kernel
theorem d_190_41 : xcode 190 41 = some (.goto (-28), 3) := by decide +kernel
theorem d_190_44 : xcode 190 44 = some (.aload_n 0, 1) := by decide +kernel
theorem d_190_45 : xcode 190 45 = some (.dup, 1) := by decide +kernel
theorem d_190_46 : xcode 190 46 = some (.getfield 107, 3) := by decide +kernel
theorem d_190_49 : xcode 190 49 = some (.aload_n 0, 1) := by decide +kernel
theorem d_190_50 : xcode 190 50 = some (.getfield 111, 3) := by decide +kernel
theorem d_190_53 : xcode 190 53 = some (.ldc2_w 125, 3) := by decide +kernel
theorem d_190_56 : xcode 190 56 = some (.ldiv, 1) := by decide +kernel
theorem d_190_57 : xcode 190 57 = some (.ladd, 1) := by decide +kernel
theorem d_190_58 : xcode 190 58 = some (.putfield 107, 3) := by decide +kernel
theorem d_190_61 : xcode 190 61 = some (.aload_n 0, 1) := by decide +kernel
theorem d_190_62 : xcode 190 62 = some (.aload_n 0, 1) := by decide +kernel
theorem d_190_63 : xcode 190 63 = some (.getfield 111, 3) := by decide +kernel
theorem d_190_66 : xcode 190 66 = some (.ldc2_w 125, 3) := by decide +kernel
theorem d_190_69 : xcode 190 69 = some (.lrem, 1) := by decide +kernel
theorem d_190_70 : xcode 190 70 = some (.putfield 111, 3) := by decide +kernel
theorem d_190_73 : xcode 190 73 = some (.return_, 1) := by decide +kernel
theorem d_191_0 : xcode 191 0 = some (.lload_n 2, 1) := by decide +kernel
theorem d_191_1 : xcode 191 1 = some (.aload_n 1, 1) := by decide +kernel
theorem d_191_2 : xcode 191 2 = some (.iconst 3, 1) := by decide +kernel
theorem d_191_3 : xcode 191 3 = some (.iload 4, 2) := by decide +kernel
theorem d_191_5 : xcode 191 5 = some (.imul, 1) := by decide +kernel
theorem d_191_6 : xcode 191 6 = some (.iconst 1, 1) := by decide +kernel
theorem d_191_7 : xcode 191 7 = some (.iadd, 1) := by decide +kernel
theorem d_191_8 : xcode 191 8 = some (.laload, 1) := by decide +kernel
theorem d_191_9 : xcode 191 9 = some (.lmul, 1) := by decide +kernel
theorem d_191_10 : xcode 191 10 = some (.lstore 5, 2) := by decide +kernel
theorem d_191_12 : xcode 191 12 = some (.aload_n 0, 1) := by decide +kernel
theorem d_191_13 : xcode 191 13 = some (.dup, 1) := by decide +kernel
theorem d_191_14 : xcode 191 14 = some (.getfield 107, 3) := by decide +kernel
theorem d_191_17 : xcode 191 17 = some (.lload_n 2, 1) := by decide +kernel
theorem d_191_18 : xcode 191 18 = some (.aload_n 1, 1) := by decide +kernel
theorem d_191_19 : xcode 191 19 = some (.iconst 3, 1) := by decide +kernel
theorem d_191_20 : xcode 191 20 = some (.iload 4, 2) := by decide +kernel
theorem d_191_22 : xcode 191 22 = some (.imul, 1) := by decide +kernel
theorem d_191_23 : xcode 191 23 = some (.laload, 1) := by decide +kernel
theorem d_191_24 : xcode 191 24 = some (.lmul, 1) := by decide +kernel
theorem d_191_25 : xcode 191 25 = some (.lload 5, 2) := by decide +kernel
theorem d_191_27 : xcode 191 27 = some (.aload_n 1, 1) := by decide +kernel
theorem d_191_28 : xcode 191 28 = some (.iconst 3, 1) := by decide +kernel
theorem d_191_29 : xcode 191 29 = some (.iload 4, 2) := by decide +kernel
theorem d_191_31 : xcode 191 31 = some (.imul, 1) := by decide +kernel
theorem d_191_32 : xcode 191 32 = some (.iconst 2, 1) := by decide +kernel
theorem d_191_33 : xcode 191 33 = some (.iadd, 1) := by decide +kernel
theorem d_191_34 : xcode 191 34 = some (.laload, 1) := by decide +kernel
theorem d_191_35 : xcode 191 35 = some (.ldiv, 1) := by decide +kernel
theorem d_191_36 : xcode 191 36 = some (.ladd, 1) := by decide +kernel
theorem d_191_37 : xcode 191 37 = some (.ladd, 1) := by decide +kernel
theorem d_191_38 : xcode 191 38 = some (.putfield 107, 3) := by decide +kernel
theorem d_191_41 : xcode 191 41 = some (.aload_n 0, 1) := by decide +kernel
theorem d_191_42 : xcode 191 42 = some (.dup, 1) := by decide +kernel
theorem d_191_43 : xcode 191 43 = some (.getfield 111, 3) := by decide +kernel
theorem d_191_46 : xcode 191 46 = some (.lload 5, 2) := by decide +kernel
theorem d_191_48 : xcode 191 48 = some (.aload_n 1, 1) := by decide +kernel
theorem d_191_49 : xcode 191 49 = some (.iconst 3, 1) := by decide +kernel
theorem d_191_50 : xcode 191 50 = some (.iload 4, 2) := by decide +kernel
theorem d_191_52 : xcode 191 52 = some (.imul, 1) := by decide +kernel
theorem d_191_53 : xcode 191 53 = some (.iconst 2, 1) := by decide +kernel
theorem d_191_54 : xcode 191 54 = some (.iadd, 1) := by decide +kernel
theorem d_191_55 : xcode 191 55 = some (.laload, 1) := by decide +kernel
theorem d_191_56 : xcode 191 56 = some (.lrem, 1) := by decide +kernel
theorem d_191_57 : xcode 191 57 = some (.ldc2_w 125, 3) := by decide +kernel
theorem d_191_60 : xcode 191 60 = some (.aload_n 1, 1) := by decide +kernel
theorem d_191_61 : xcode 191 61 = some (.iconst 3, 1) := by decide +kernel
theorem d_191_62 : xcode 191 62 = some (.iload 4, 2) := by decide +kernel
theorem d_191_64 : xcode 191 64 = some (.imul, 1) := by decide +kernel
theorem d_191_65 : xcode 191 65 = some (.iconst 2, 1) := by decide +kernel
theorem d_191_66 : xcode 191 66 = some (.iadd, 1) := by decide +kernel
theorem d_191_67 : xcode 191 67 = some (.laload, 1) := by decide +kernel
theorem d_191_68 : xcode 191 68 = some (.ldiv, 1) := by decide +kernel
theorem d_191_69 : xcode 191 69 = some (.lmul, 1) := by decide +kernel
theorem d_191_70 : xcode 191 70 = some (.ladd, 1) := by decide +kernel
theorem d_191_71 : xcode 191 71 = some (.putfield 111, 3) := by decide +kernel
theorem d_191_74 : xcode 191 74 = some (.return_, 1) := by decide +kernel
theorem d_192_0 : xcode 192 0 = some (.lload_n 3, 1) := by decide +kernel
theorem d_192_1 : xcode 192 1 = some (.lload 5, 2) := by decide +kernel
theorem d_192_3 : xcode 192 3 = some (.ldc2_w 125, 3) := by decide +kernel
theorem d_192_6 : xcode 192 6 = some (.invokestatic 131, 3) := by decide +kernel
theorem d_192_9 : xcode 192 9 = some (.ladd, 1) := by decide +kernel
theorem d_192_10 : xcode 192 10 = some (.lstore 8, 2) := by decide +kernel
theorem d_192_12 : xcode 192 12 = some (.lload 5, 2) := by decide +kernel
theorem d_192_14 : xcode 192 14 = some (.lload 5, 2) := by decide +kernel
theorem d_192_16 : xcode 192 16 = some (.ldc2_w 125, 3) := by decide +kernel
theorem d_192_19 : xcode 192 19 = some (.invokestatic 131, 3) := by decide +kernel
theorem d_192_22 : xcode 192 22 = some (.ldc2_w 125, 3) := by decide +kernel
theorem d_192_25 : xcode 192 25 = some (.lmul, 1) := by decide +kernel
theorem d_192_26 : xcode 192 26 = some (.lsub, 1) := by decide +kernel
theorem d_192_27 : xcode 192 27 = some (.lstore 10, 2) := by decide +kernel
theorem d_192_29 : xcode 192 29 = some (.lload 8, 2) := by decide +kernel
theorem d_192_31 : xcode 192 31 = some (.iload 7, 2) := by decide +kernel
theorem d_192_33 : xcode 192 33 = some (.i2l, 1) := by decide +kernel
theorem d_192_34 : xcode 192 34 = some (.invokestatic 131, 3) := by decide +kernel
theorem d_192_37 : xcode 192 37 = some (.lstore 12, 2) := by decide +kernel
theorem d_192_39 : xcode 192 39 = some (.aload_n 0, 1) := by decide +kernel
theorem d_192_40 : xcode 192 40 = some (.aload_n 1, 1) := by decide +kernel
theorem d_192_41 : xcode 192 41 = some (.iload_n 2, 1) := by decide +kernel
theorem d_192_42 : xcode 192 42 = some (.lload 12, 2) := by decide +kernel
theorem d_192_44 : xcode 192 44 = some (.lload 8, 2) := by decide +kernel
theorem d_192_46 : xcode 192 46 = some (.lload 12, 2) := by decide +kernel
theorem d_192_48 : xcode 192 48 = some (.iload 7, 2) := by decide +kernel
theorem d_192_50 : xcode 192 50 = some (.i2l, 1) := by decide +kernel
theorem d_192_51 : xcode 192 51 = some (.lmul, 1) := by decide +kernel
theorem d_192_52 : xcode 192 52 = some (.lsub, 1) := by decide +kernel
theorem d_192_53 : xcode 192 53 = some (.ldc2_w 125, 3) := by decide +kernel
theorem d_192_56 : xcode 192 56 = some (.lmul, 1) := by decide +kernel
theorem d_192_57 : xcode 192 57 = some (.lload 10, 2) := by decide +kernel
theorem d_192_59 : xcode 192 59 = some (.ladd, 1) := by decide +kernel
theorem d_192_60 : xcode 192 60 = some (.ldc2_w 125, 3) := by decide +kernel
theorem d_192_63 : xcode 192 63 = some (.iload 7, 2) := by decide +kernel
theorem d_192_65 : xcode 192 65 = some (.i2l, 1) := by decide +kernel
theorem d_192_66 : xcode 192 66 = some (.lmul, 1) := by decide +kernel
theorem d_192_67 : xcode 192 67 = some (.invokevirtual 134, 3) := by decide +kernel
theorem d_192_70 : xcode 192 70 = some (.return_, 1) := by decide +kernel
theorem d_193_0 : xcode 193 0 = some (.lload_n 0, 1) := by decide +kernel
theorem d_193_1 : xcode 193 1 = some (.lload_n 2, 1) := by decide +kernel
theorem d_193_2 : xcode 193 2 = some (.ldiv, 1) := by decide +kernel
theorem d_193_3 : xcode 193 3 = some (.lstore 4, 2) := by decide +kernel
theorem d_193_5 : xcode 193 5 = some (.lload 4, 2) := by decide +kernel
theorem d_193_7 : xcode 193 7 = some (.lload_n 2, 1) := by decide +kernel
theorem d_193_8 : xcode 193 8 = some (.lmul, 1) := by decide +kernel
theorem d_193_9 : xcode 193 9 = some (.lload_n 0, 1) := by decide +kernel
theorem d_193_10 : xcode 193 10 = some (.lcmp, 1) := by decide +kernel
theorem d_193_11 : xcode 193 11 = some (.ifCond .le 10, 3) := by decide +kernel
theorem d_193_14 : xcode 193 14 = some (.lload 4, 2) := by decide +kernel
theorem d_193_16 : xcode 193 16 = some (.lconst 1, 1) := by decide +kernel
theorem d_193_17 : xcode 193 17 = some (.lsub, 1) := by decide +kernel
theorem d_193_18 : xcode 193 18 = some (.goto 5, 3) := by decide +kernel
theorem d_193_21 : xcode 193 21 = some (.lload 4, 2) := by decide +kernel
theorem d_193_23 : xcode 193 23 = some (.lreturn, 1) := by decide +kernel
theorem d_194_0 : xcode 194 0 = some (.lload 5, 2) := by decide +kernel
theorem d_194_2 : xcode 194 2 = some (.lload 7, 2) := by decide +kernel
theorem d_194_4 : xcode 194 4 = some (.invokestatic 121, 3) := by decide +kernel
theorem d_194_7 : xcode 194 7 = some (.lstore 9, 2) := by decide +kernel
theorem d_194_9 : xcode 194 9 = some (.aload_n 1, 1) := by decide +kernel
theorem d_194_10 : xcode 194 10 = some (.iload_n 2, 1) := by decide +kernel
theorem d_194_11 : xcode 194 11 = some (.lload_n 3, 1) := by decide +kernel
theorem d_194_12 : xcode 194 12 = some (.lload 5, 2) := by decide +kernel
theorem d_194_14 : xcode 194 14 = some (.lload 9, 2) := by decide +kernel
theorem d_194_16 : xcode 194 16 = some (.ldiv, 1) := by decide +kernel
theorem d_194_17 : xcode 194 17 = some (.lload 7, 2) := by decide +kernel
theorem d_194_19 : xcode 194 19 = some (.lload 9, 2) := by decide +kernel
theorem d_194_21 : xcode 194 21 = some (.ldiv, 1) := by decide +kernel
theorem d_194_22 : xcode 194 22 = some (.invokestatic 99, 3) := by decide +kernel
theorem d_194_25 : xcode 194 25 = some (.return_, 1) := by decide +kernel
theorem d_195_0 : xcode 195 0 = some (.lload_n 0, 1) := by decide +kernel
theorem d_195_1 : xcode 195 1 = some (.lconst 0, 1) := by decide +kernel
theorem d_195_2 : xcode 195 2 = some (.lcmp, 1) := by decide +kernel
theorem d_195_3 : xcode 195 3 = some (.ifCond .ge 8, 3) := by decide +kernel
theorem d_195_6 : xcode 195 6 = some (.lload_n 0, 1) := by decide +kernel
theorem d_195_7 : xcode 195 7 = some (.lneg, 1) := by decide +kernel
theorem d_195_8 : xcode 195 8 = some (.goto 4, 3) := by decide +kernel
theorem d_195_11 : xcode 195 11 = some (.lload_n 0, 1) := by decide +kernel
theorem d_195_12 : xcode 195 12 = some (.lstore 4, 2) := by decide +kernel
theorem d_195_14 : xcode 195 14 = some (.lload_n 2, 1) := by decide +kernel
theorem d_195_15 : xcode 195 15 = some (.lconst 0, 1) := by decide +kernel
theorem d_195_16 : xcode 195 16 = some (.lcmp, 1) := by decide +kernel
theorem d_195_17 : xcode 195 17 = some (.ifCond .ge 8, 3) := by decide +kernel
theorem d_195_20 : xcode 195 20 = some (.lload_n 2, 1) := by decide +kernel
theorem d_195_21 : xcode 195 21 = some (.lneg, 1) := by decide +kernel
theorem d_195_22 : xcode 195 22 = some (.goto 4, 3) := by decide +kernel
theorem d_195_25 : xcode 195 25 = some (.lload_n 2, 1) := by decide +kernel
theorem d_195_26 : xcode 195 26 = some (.lstore 6, 2) := by decide +kernel
theorem d_195_28 : xcode 195 28 = some (.lload 6, 2) := by decide +kernel
theorem d_195_30 : xcode 195 30 = some (.lconst 0, 1) := by decide +kernel
theorem d_195_31 : xcode 195 31 = some (.lcmp, 1) := by decide +kernel
theorem d_195_32 : xcode 195 32 = some (.ifCond .eq 21, 3) := by decide +kernel
theorem d_195_35 : xcode 195 35 = some (.lload 4, 2) := by decide +kernel
theorem d_195_37 : xcode 195 37 = some (.lload 6, 2) := by decide +kernel
theorem d_195_39 : xcode 195 39 = some (.lrem, 1) := by decide +kernel
theorem d_195_40 : xcode 195 40 = some (.lstore 8, 2) := by decide +kernel
theorem d_195_42 : xcode 195 42 = some (.lload 6, 2) := by decide +kernel
theorem d_195_44 : xcode 195 44 = some (.lstore 4, 2) := by decide +kernel
theorem d_195_46 : xcode 195 46 = some (.lload 8, 2) := by decide +kernel
theorem d_195_48 : xcode 195 48 = some (.lstore 6, 2) := by decide +kernel
theorem d_195_50 : xcode 195 50 = some (.goto (-22), 3) := by decide +kernel
theorem d_195_53 : xcode 195 53 = some (.lload 4, 2) := by decide +kernel
theorem d_195_55 : xcode 195 55 = some (.lreturn, 1) := by decide +kernel
theorem d_196_0 : xcode 196 0 = some (.aload_n 0, 1) := by decide +kernel
theorem d_196_1 : xcode 196 1 = some (.getfield 118, 3) := by decide +kernel
theorem d_196_4 : xcode 196 4 = some (.ireturn, 1) := by decide +kernel
theorem d_197_0 : xcode 197 0 = some (.aload_n 0, 1) := by decide +kernel
theorem d_197_1 : xcode 197 1 = some (.iconst 0, 1) := by decide +kernel
theorem d_197_2 : xcode 197 2 = some (.putfield 118, 3) := by decide +kernel
theorem d_197_5 : xcode 197 5 = some (.aload_n 0, 1) := by decide +kernel
theorem d_197_6 : xcode 197 6 = some (.iload_n 1, 1) := by decide +kernel
theorem d_197_7 : xcode 197 7 = some (.invokevirtual 145, 3) := by decide +kernel
theorem d_197_10 : xcode 197 10 = some (.ifCond .eq 12, 3) := by decide +kernel
theorem d_197_13 : xcode 197 13 = some (.iload_n 2, 1) := by decide +kernel
theorem d_197_14 : xcode 197 14 = some (.iconst 0, 1) := by decide +kernel
theorem d_197_15 : xcode 197 15 = some (.iconst 2, 1) := by decide +kernel
theorem d_197_16 : xcode 197 16 = some (.invokestatic 137, 3) := by decide +kernel
theorem d_197_19 : xcode 197 19 = some (.ifCond .ne 5, 3) := by decide +kernel
theorem d_197_22 : xcode 197 22 = some (.iconst (-1), 1) := by decide +kernel
theorem d_197_23 : xcode 197 23 = some (.ireturn, 1) := by decide +kernel
theorem d_197_24 : xcode 197 24 = some (.iload_n 2, 1) := by decide +kernel
theorem d_197_25 : xcode 197 25 = some (.ifCond .ne 17, 3) := by decide +kernel
theorem d_197_28 : xcode 197 28 = some (.aload_n 0, 1) := by decide +kernel
theorem d_197_29 : xcode 197 29 = some (.aload_n 0, 1) := by decide +kernel
theorem d_197_30 : xcode 197 30 = some (.getfield 20, 3) := by decide +kernel
theorem d_197_33 : xcode 197 33 = some (.invokevirtual 148, 3) := by decide +kernel
theorem d_197_36 : xcode 197 36 = some (.ifCond .ne 6, 3) := by decide +kernel
theorem d_197_39 : xcode 197 39 = some (.bipush (-3), 2) := by decide +kernel
theorem d_197_41 : xcode 197 41 = some (.ireturn, 1) := by decide +kernel
theorem d_197_42 : xcode 197 42 = some (.iconst 0, 1) := by decide +kernel
theorem d_197_43 : xcode 197 43 = some (.istore_n 3, 1) := by decide +kernel
theorem d_197_44 : xcode 197 44 = some (.aload_n 0, 1) := by decide +kernel
theorem d_197_45 : xcode 197 45 = some (.getfield 20, 3) := by decide +kernel
theorem d_197_48 : xcode 197 48 = some (.iload_n 1, 1) := by decide +kernel
theorem d_197_49 : xcode 197 49 = some (.if_icmp .ge 28, 3) := by decide +kernel
theorem d_197_52 : xcode 197 52 = some (.aload_n 0, 1) := by decide +kernel
theorem d_197_53 : xcode 197 53 = some (.dup, 1) := by decide +kernel
theorem d_197_54 : xcode 197 54 = some (.getfield 20, 3) := by decide +kernel
theorem d_197_57 : xcode 197 57 = some (.iconst 1, 1) := by decide +kernel
theorem d_197_58 : xcode 197 58 = some (.iadd, 1) := by decide +kernel
theorem d_197_59 : xcode 197 59 = some (.putfield 20, 3) := by decide +kernel
theorem d_197_62 : xcode 197 62 = some (.aload_n 0, 1) := by decide +kernel
theorem d_197_63 : xcode 197 63 = some (.aload_n 0, 1) := by decide +kernel
theorem d_197_64 : xcode 197 64 = some (.getfield 20, 3) := by decide +kernel
theorem d_197_67 : xcode 197 67 = some (.iload_n 2, 1) := by decide +kernel
theorem d_197_68 : xcode 197 68 = some (.invokevirtual 151, 3) := by decide +kernel
theorem d_197_71 : xcode 197 71 = some (.iinc 3 1, 3) := by decide +kernel
theorem d_197_74 : xcode 197 74 = some (.goto (-30), 3) := by decide +kernel
theorem d_197_77 : xcode 197 77 = some (.iload_n 3, 1) := by decide +kernel
theorem d_197_78 : xcode 197 78 = some (.ireturn, 1) := by decide +kernel
theorem d_198_0 : xcode 198 0 = some (.iload_n 1, 1) := by decide +kernel
theorem d_198_1 : xcode 198 1 = some (.iconst 0, 1) := by decide +kernel
theorem d_198_2 : xcode 198 2 = some (.bipush 38, 2) := by decide +kernel
theorem d_198_4 : xcode 198 4 = some (.invokestatic 137, 3) := by decide +kernel
theorem d_198_7 : xcode 198 7 = some (.ireturn, 1) := by decide +kernel
theorem d_199_0 : xcode 199 0 = some (.iload_n 0, 1) := by decide +kernel
theorem d_199_1 : xcode 199 1 = some (.iload_n 1, 1) := by decide +kernel
theorem d_199_2 : xcode 199 2 = some (.if_icmp .lt 12, 3) := by decide +kernel
theorem d_199_5 : xcode 199 5 = some (.iload_n 0, 1) := by decide +kernel
theorem d_199_6 : xcode 199 6 = some (.iload_n 2, 1) := by decide +kernel
theorem d_199_7 : xcode 199 7 = some (.if_icmp .gt 7, 3) := by decide +kernel
theorem d_199_10 : xcode 199 10 = some (.iconst 1, 1) := by decide +kernel
theorem d_199_11 : xcode 199 11 = some (.goto 4, 3) := by decide +kernel
theorem d_199_14 : xcode 199 14 = some (.iconst 0, 1) := by decide +kernel
theorem d_199_15 : xcode 199 15 = some (.ireturn, 1) := by decide +kernel
theorem d_200_0 : xcode 200 0 = some (.iconst 0, 1) := by decide +kernel
theorem d_200_1 : xcode 200 1 = some (.istore_n 2, 1) := by decide +kernel
theorem d_200_2 : xcode 200 2 = some (.iload_n 2, 1) := by decide +kernel
theorem d_200_3 : xcode 200 3 = some (.iload_n 1, 1) := by decide +kernel
theorem d_200_4 : xcode 200 4 = some (.if_icmp .gt 19, 3) := by decide +kernel
theorem d_200_7 : xcode 200 7 = some (.aload_n 0, 1) := by decide +kernel
theorem d_200_8 : xcode 200 8 = some (.iload_n 2, 1) := by decide +kernel
theorem d_200_9 : xcode 200 9 = some (.invokevirtual 141, 3) := by decide +kernel
theorem d_200_12 : xcode 200 12 = some (.ifCond .ne 5, 3) := by decide +kernel
theorem d_200_15 : xcode 200 15 = some (.iconst 0, 1) := by decide +kernel
theorem d_200_16 : xcode 200 16 = some (.ireturn, 1) := by decide +kernel
theorem d_200_17 : xcode 200 17 = some (.iinc 2 1, 3) := by decide +kernel
theorem d_200_20 : xcode 200 20 = some (.goto (-18), 3) := by decide +kernel
theorem d_200_23 : xcode 200 23 = some (.iconst 1, 1) := by decide +kernel
theorem d_200_24 : xcode 200 24 = some (.ireturn, 1) := by decide +kernel
theorem d_201_0 : xcode 201 0 = some (.aload_n 0, 1) := by decide +kernel
theorem d_201_1 : xcode 201 1 = some (.getfield 13, 3) := by decide +kernel
theorem d_201_4 : xcode 201 4 = some (.iconst 3, 1) := by decide +kernel
theorem d_201_5 : xcode 201 5 = some (.iload_n 1, 1) := by decide +kernel
theorem d_201_6 : xcode 201 6 = some (.imul, 1) := by decide +kernel
theorem d_201_7 : xcode 201 7 = some (.laload, 1) := by decide +kernel
theorem d_201_8 : xcode 201 8 = some (.aload_n 0, 1) := by decide +kernel
theorem d_201_9 : xcode 201 9 = some (.getfield 7, 3) := by decide +kernel
theorem d_201_12 : xcode 201 12 = some (.iconst 3, 1) := by decide +kernel
theorem d_201_13 : xcode 201 13 = some (.iload_n 1, 1) := by decide +kernel
theorem d_201_14 : xcode 201 14 = some (.imul, 1) := by decide +kernel
theorem d_201_15 : xcode 201 15 = some (.laload, 1) := by decide +kernel
theorem d_201_16 : xcode 201 16 = some (.lcmp, 1) := by decide +kernel
theorem d_201_17 : xcode 201 17 = some (.ifCond .ne 55, 3) := by decide +kernel
theorem d_201_20 : xcode 201 20 = some (.aload_n 0, 1) := by decide +kernel
theorem d_201_21 : xcode 201 21 = some (.getfield 13, 3) := by decide +kernel
theorem d_201_24 : xcode 201 24 = some (.iconst 3, 1) := by decide +kernel
theorem d_201_25 : xcode 201 25 = some (.iload_n 1, 1) := by decide +kernel
theorem d_201_26 : xcode 201 26 = some (.imul, 1) := by decide +kernel
theorem d_201_27 : xcode 201 27 = some (.iconst 1, 1) := by decide +kernel
theorem d_201_28 : xcode 201 28 = some (.iadd, 1) := by decide +kernel
theorem d_201_29 : xcode 201 29 = some (.laload, 1) := by decide +kernel
theorem d_201_30 : xcode 201 30 = some (.aload_n 0, 1) := by decide +kernel
theorem d_201_31 : xcode 201 31 = some (.getfield 7, 3) := by decide +kernel
theorem d_201_34 : xcode 201 34 = some (.iconst 3, 1) := by decide +kernel
theorem d_201_35 : xcode 201 35 = some (.iload_n 1, 1) := by decide +kernel
theorem d_201_36 : xcode 201 36 = some (.imul, 1) := by decide +kernel
theorem d_201_37 : xcode 201 37 = some (.iconst 1, 1) := by decide +kernel
theorem d_201_38 : xcode 201 38 = some (.iadd, 1) := by decide +kernel
theorem d_201_39 : xcode 201 39 = some (.laload, 1) := by decide +kernel
theorem d_201_40 : xcode 201 40 = some (.lcmp, 1) := by decide +kernel
theorem d_201_41 : xcode 201 41 = some (.ifCond .ne 31, 3) := by decide +kernel
theorem d_201_44 : xcode 201 44 = some (.aload_n 0, 1) := by decide +kernel
theorem d_201_45 : xcode 201 45 = some (.getfield 13, 3) := by decide +kernel
theorem d_201_48 : xcode 201 48 = some (.iconst 3, 1) := by decide +kernel
theorem d_201_49 : xcode 201 49 = some (.iload_n 1, 1) := by decide +kernel
theorem d_201_50 : xcode 201 50 = some (.imul, 1) := by decide +kernel
theorem d_201_51 : xcode 201 51 = some (.iconst 2, 1) := by decide +kernel
theorem d_201_52 : xcode 201 52 = some (.iadd, 1) := by decide +kernel
theorem d_201_53 : xcode 201 53 = some (.laload, 1) := by decide +kernel
theorem d_201_54 : xcode 201 54 = some (.aload_n 0, 1) := by decide +kernel
theorem d_201_55 : xcode 201 55 = some (.getfield 7, 3) := by decide +kernel
theorem d_201_58 : xcode 201 58 = some (.iconst 3, 1) := by decide +kernel
theorem d_201_59 : xcode 201 59 = some (.iload_n 1, 1) := by decide +kernel
theorem d_201_60 : xcode 201 60 = some (.imul, 1) := by decide +kernel
theorem d_201_61 : xcode 201 61 = some (.iconst 2, 1) := by decide +kernel
theorem d_201_62 : xcode 201 62 = some (.iadd, 1) := by decide +kernel
theorem d_201_63 : xcode 201 63 = some (.laload, 1) := by decide +kernel
theorem d_201_64 : xcode 201 64 = some (.lcmp, 1) := by decide +kernel
theorem d_201_65 : xcode 201 65 = some (.ifCond .ne 7, 3) := by decide +kernel
theorem d_201_68 : xcode 201 68 = some (.iconst 1, 1) := by decide +kernel
theorem d_201_69 : xcode 201 69 = some (.goto 4, 3) := by decide +kernel
theorem d_201_72 : xcode 201 72 = some (.iconst 0, 1) := by decide +kernel
theorem d_201_73 : xcode 201 73 = some (.ireturn, 1) := by decide +kernel
theorem d_202_0 : xcode 202 0 = some (.aload_n 0, 1) := by decide +kernel
theorem d_202_1 : xcode 202 1 = some (.getfield 13, 3) := by decide +kernel
theorem d_202_4 : xcode 202 4 = some (.iload_n 1, 1) := by decide +kernel
theorem d_202_5 : xcode 202 5 = some (.aload_n 0, 1) := by decide +kernel
theorem d_202_6 : xcode 202 6 = some (.getfield 7, 3) := by decide +kernel
theorem d_202_9 : xcode 202 9 = some (.iconst 3, 1) := by decide +kernel
theorem d_202_10 : xcode 202 10 = some (.iload_n 1, 1) := by decide +kernel
theorem d_202_11 : xcode 202 11 = some (.imul, 1) := by decide +kernel
theorem d_202_12 : xcode 202 12 = some (.laload, 1) := by decide +kernel
theorem d_202_13 : xcode 202 13 = some (.aload_n 0, 1) := by decide +kernel
theorem d_202_14 : xcode 202 14 = some (.getfield 7, 3) := by decide +kernel
theorem d_202_17 : xcode 202 17 = some (.iconst 3, 1) := by decide +kernel
theorem d_202_18 : xcode 202 18 = some (.iload_n 1, 1) := by decide +kernel
theorem d_202_19 : xcode 202 19 = some (.imul, 1) := by decide +kernel
theorem d_202_20 : xcode 202 20 = some (.iconst 1, 1) := by decide +kernel
theorem d_202_21 : xcode 202 21 = some (.iadd, 1) := by decide +kernel
theorem d_202_22 : xcode 202 22 = some (.laload, 1) := by decide +kernel
theorem d_202_23 : xcode 202 23 = some (.aload_n 0, 1) := by decide +kernel
theorem d_202_24 : xcode 202 24 = some (.getfield 7, 3) := by decide +kernel
theorem d_202_27 : xcode 202 27 = some (.iconst 3, 1) := by decide +kernel
theorem d_202_28 : xcode 202 28 = some (.iload_n 1, 1) := by decide +kernel
theorem d_202_29 : xcode 202 29 = some (.imul, 1) := by decide +kernel
theorem d_202_30 : xcode 202 30 = some (.iconst 2, 1) := by decide +kernel
theorem d_202_31 : xcode 202 31 = some (.iadd, 1) := by decide +kernel
theorem d_202_32 : xcode 202 32 = some (.laload, 1) := by decide +kernel
theorem d_202_33 : xcode 202 33 = some (.invokestatic 99, 3) := by decide +kernel
theorem d_202_36 : xcode 202 36 = some (.aload_n 0, 1) := by decide +kernel
theorem d_202_37 : xcode 202 37 = some (.getfield 16, 3) := by decide +kernel
theorem d_202_40 : xcode 202 40 = some (.iload_n 1, 1) := by decide +kernel
theorem d_202_41 : xcode 202 41 = some (.iload_n 2, 1) := by decide +kernel
theorem d_202_42 : xcode 202 42 = some (.iastore, 1) := by decide +kernel
theorem d_202_43 : xcode 202 43 = some (.return_, 1) := by decide +kernel
theorem d_203_0 : xcode 203 0 = some (.aload_n 0, 1) := by decide +kernel
theorem d_203_1 : xcode 203 1 = some (.iconst 0, 1) := by decide +kernel
theorem d_203_2 : xcode 203 2 = some (.putfield 118, 3) := by decide +kernel
theorem d_203_5 : xcode 203 5 = some (.aload_n 0, 1) := by decide +kernel
theorem d_203_6 : xcode 203 6 = some (.iload_n 1, 1) := by decide +kernel
theorem d_203_7 : xcode 203 7 = some (.invokevirtual 145, 3) := by decide +kernel
theorem d_203_10 : xcode 203 10 = some (.ifCond .eq 12, 3) := by decide +kernel
theorem d_203_13 : xcode 203 13 = some (.iload_n 2, 1) := by decide +kernel
theorem d_203_14 : xcode 203 14 = some (.iconst 0, 1) := by decide +kernel
theorem d_203_15 : xcode 203 15 = some (.iconst 2, 1) := by decide +kernel
theorem d_203_16 : xcode 203 16 = some (.invokestatic 137, 3) := by decide +kernel
theorem d_203_19 : xcode 203 19 = some (.ifCond .ne 5, 3) := by decide +kernel
theorem d_203_22 : xcode 203 22 = some (.iconst (-1), 1) := by decide +kernel
theorem d_203_23 : xcode 203 23 = some (.ireturn, 1) := by decide +kernel
theorem d_203_24 : xcode 203 24 = some (.iload_n 1, 1) := by decide +kernel
theorem d_203_25 : xcode 203 25 = some (.aload_n 0, 1) := by decide +kernel
theorem d_203_26 : xcode 203 26 = some (.getfield 20, 3) := by decide +kernel
theorem d_203_29 : xcode 203 29 = some (.if_icmp .le 6, 3) := by decide +kernel
theorem d_203_32 : xcode 203 32 = some (.bipush (-2), 2) := by decide +kernel
theorem d_203_34 : xcode 203 34 = some (.ireturn, 1) := by decide +kernel
theorem d_203_35 : xcode 203 35 = some (.iload_n 2, 1) := by decide +kernel
theorem d_203_36 : xcode 203 36 = some (.ifCond .ne 16, 3) := by decide +kernel
theorem d_203_39 : xcode 203 39 = some (.aload_n 0, 1) := by decide +kernel
theorem d_203_40 : xcode 203 40 = some (.iload_n 1, 1) := by decide +kernel
theorem d_203_41 : xcode 203 41 = some (.iconst 1, 1) := by decide +kernel
theorem d_203_42 : xcode 203 42 = some (.isub, 1) := by decide +kernel
theorem d_203_43 : xcode 203 43 = some (.invokevirtual 148, 3) := by decide +kernel
theorem d_203_46 : xcode 203 46 = some (.ifCond .ne 6, 3) := by decide +kernel
theorem d_203_49 : xcode 203 49 = some (.bipush (-3), 2) := by decide +kernel
theorem d_203_51 : xcode 203 51 = some (.ireturn, 1) := by decide +kernel
theorem d_203_52 : xcode 203 52 = some (.aload_n 0, 1) := by decide +kernel
theorem d_203_53 : xcode 203 53 = some (.iload_n 1, 1) := by decide +kernel
theorem d_203_54 : xcode 203 54 = some (.invokevirtual 141, 3) := by decide +kernel
theorem d_203_57 : xcode 203 57 = some (.ifCond .eq 7, 3) := by decide +kernel
theorem d_203_60 : xcode 203 60 = some (.iconst 0, 1) := by decide +kernel
theorem d_203_61 : xcode 203 61 = some (.goto 4, 3) := by decide +kernel
theorem d_203_64 : xcode 203 64 = some (.iconst 1, 1) := by decide +kernel
theorem d_203_65 : xcode 203 65 = some (.istore_n 3, 1) := by decide +kernel
theorem d_203_66 : xcode 203 66 = some (.aload_n 0, 1) := by decide +kernel
theorem d_203_67 : xcode 203 67 = some (.iload_n 1, 1) := by decide +kernel
theorem d_203_68 : xcode 203 68 = some (.iload_n 2, 1) := by decide +kernel
theorem d_203_69 : xcode 203 69 = some (.invokevirtual 151, 3) := by decide +kernel
theorem d_203_72 : xcode 203 72 = some (.iload_n 3, 1) := by decide +kernel
theorem d_203_73 : xcode 203 73 = some (.ireturn, 1) := by decide +kernel
theorem d_204_0 : xcode 204 0 = some (.aload_n 0, 1) := by decide +kernel
theorem d_204_1 : xcode 204 1 = some (.iconst 0, 1) := by decide +kernel
theorem d_204_2 : xcode 204 2 = some (.putfield 118, 3) := by decide +kernel
theorem d_204_5 : xcode 204 5 = some (.aload_n 0, 1) := by decide +kernel
theorem d_204_6 : xcode 204 6 = some (.iload_n 1, 1) := by decide +kernel
theorem d_204_7 : xcode 204 7 = some (.invokevirtual 145, 3) := by decide +kernel
theorem d_204_10 : xcode 204 10 = some (.ifCond .eq 18, 3) := by decide +kernel
theorem d_204_13 : xcode 204 13 = some (.iload_n 2, 1) := by decide +kernel
theorem d_204_14 : xcode 204 14 = some (.bipush (-9), 2) := by decide +kernel
theorem d_204_16 : xcode 204 16 = some (.bipush 9, 2) := by decide +kernel
theorem d_204_18 : xcode 204 18 = some (.invokestatic 137, 3) := by decide +kernel
theorem d_204_21 : xcode 204 21 = some (.ifCond .eq 7, 3) := by decide +kernel
theorem d_204_24 : xcode 204 24 = some (.iload_n 2, 1) := by decide +kernel
theorem d_204_25 : xcode 204 25 = some (.ifCond .ne 5, 3) := by decide +kernel
theorem d_204_28 : xcode 204 28 = some (.iconst (-1), 1) := by decide +kernel
theorem d_204_29 : xcode 204 29 = some (.ireturn, 1) := by decide +kernel
theorem d_204_30 : xcode 204 30 = some (.iload_n 1, 1) := by decide +kernel
theorem d_204_31 : xcode 204 31 = some (.aload_n 0, 1) := by decide +kernel
theorem d_204_32 : xcode 204 32 = some (.getfield 20, 3) := by decide +kernel
theorem d_204_35 : xcode 204 35 = some (.if_icmp .le 6, 3) := by decide +kernel
theorem d_204_38 : xcode 204 38 = some (.bipush (-2), 2) := by decide +kernel
theorem d_204_40 : xcode 204 40 = some (.ireturn, 1) := by decide +kernel
theorem d_204_41 : xcode 204 41 = some (.aload_n 0, 1) := by decide +kernel
theorem d_204_42 : xcode 204 42 = some (.iload_n 1, 1) := by decide +kernel
theorem d_204_43 : xcode 204 43 = some (.iload_n 2, 1) := by decide +kernel
theorem d_204_44 : xcode 204 44 = some (.invokevirtual 155, 3) := by decide +kernel
theorem d_204_47 : xcode 204 47 = some (.aload_n 0, 1) := by decide +kernel
theorem d_204_48 : xcode 204 48 = some (.getfield 16, 3) := by decide +kernel
theorem d_204_51 : xcode 204 51 = some (.iload_n 1, 1) := by decide +kernel
theorem d_204_52 : xcode 204 52 = some (.iconst 3, 1) := by decide +kernel
theorem d_204_53 : xcode 204 53 = some (.iastore, 1) := by decide +kernel
theorem d_204_54 : xcode 204 54 = some (.aload_n 0, 1) := by decide +kernel
theorem d_204_55 : xcode 204 55 = some (.iload_n 1, 1) := by decide +kernel
theorem d_204_56 : xcode 204 56 = some (.invokevirtual 158, 3) := by decide +kernel
theorem d_204_59 : xcode 204 59 = some (.ireturn, 1) := by decide +kernel
theorem d_205_0 : xcode 205 0 = some (.aload_n 0, 1) := by decide +kernel
theorem d_205_1 : xcode 205 1 = some (.getfield 13, 3) := by decide +kernel
theorem d_205_4 : xcode 205 4 = some (.iconst 3, 1) := by decide +kernel
theorem d_205_5 : xcode 205 5 = some (.iload_n 1, 1) := by decide +kernel
theorem d_205_6 : xcode 205 6 = some (.imul, 1) := by decide +kernel
theorem d_205_7 : xcode 205 7 = some (.iconst 1, 1) := by decide +kernel
theorem d_205_8 : xcode 205 8 = some (.iadd, 1) := by decide +kernel
theorem d_205_9 : xcode 205 9 = some (.laload, 1) := by decide +kernel
theorem d_205_10 : xcode 205 10 = some (.iload_n 2, 1) := by decide +kernel
theorem d_205_11 : xcode 205 11 = some (.i2l, 1) := by decide +kernel
theorem d_205_12 : xcode 205 12 = some (.ladd, 1) := by decide +kernel
theorem d_205_13 : xcode 205 13 = some (.lstore_n 3, 1) := by decide +kernel
theorem d_205_14 : xcode 205 14 = some (.aload_n 0, 1) := by decide +kernel
theorem d_205_15 : xcode 205 15 = some (.getfield 13, 3) := by decide +kernel
theorem d_205_18 : xcode 205 18 = some (.iconst 3, 1) := by decide +kernel
theorem d_205_19 : xcode 205 19 = some (.iload_n 1, 1) := by decide +kernel
theorem d_205_20 : xcode 205 20 = some (.imul, 1) := by decide +kernel
theorem d_205_21 : xcode 205 21 = some (.iconst 2, 1) := by decide +kernel
theorem d_205_22 : xcode 205 22 = some (.iadd, 1) := by decide +kernel
theorem d_205_23 : xcode 205 23 = some (.laload, 1) := by decide +kernel
theorem d_205_24 : xcode 205 24 = some (.lstore 5, 2) := by decide +kernel
theorem d_205_26 : xcode 205 26 = some (.lload_n 3, 1) := by decide +kernel
theorem d_205_27 : xcode 205 27 = some (.lload 5, 2) := by decide +kernel
theorem d_205_29 : xcode 205 29 = some (.invokestatic 131, 3) := by decide +kernel
theorem d_205_32 : xcode 205 32 = some (.lstore 7, 2) := by decide +kernel
theorem d_205_34 : xcode 205 34 = some (.aload_n 0, 1) := by decide +kernel
theorem d_205_35 : xcode 205 35 = some (.aload_n 0, 1) := by decide +kernel
theorem d_205_36 : xcode 205 36 = some (.getfield 13, 3) := by decide +kernel
theorem d_205_39 : xcode 205 39 = some (.iload_n 1, 1) := by decide +kernel
theorem d_205_40 : xcode 205 40 = some (.aload_n 0, 1) := by decide +kernel
theorem d_205_41 : xcode 205 41 = some (.getfield 13, 3) := by decide +kernel
theorem d_205_44 : xcode 205 44 = some (.iconst 3, 1) := by decide +kernel
theorem d_205_45 : xcode 205 45 = some (.iload_n 1, 1) := by decide +kernel
theorem d_205_46 : xcode 205 46 = some (.imul, 1) := by decide +kernel
theorem d_205_47 : xcode 205 47 = some (.laload, 1) := by decide +kernel
theorem d_205_48 : xcode 205 48 = some (.lload 7, 2) := by decide +kernel
theorem d_205_50 : xcode 205 50 = some (.ladd, 1) := by decide +kernel
theorem d_205_51 : xcode 205 51 = some (.lload_n 3, 1) := by decide +kernel
theorem d_205_52 : xcode 205 52 = some (.lload 7, 2) := by decide +kernel
theorem d_205_54 : xcode 205 54 = some (.lload 5, 2) := by decide +kernel
theorem d_205_56 : xcode 205 56 = some (.lmul, 1) := by decide +kernel
theorem d_205_57 : xcode 205 57 = some (.lsub, 1) := by decide +kernel
theorem d_205_58 : xcode 205 58 = some (.lload 5, 2) := by decide +kernel
theorem d_205_60 : xcode 205 60 = some (.invokevirtual 134, 3) := by decide +kernel
theorem d_205_63 : xcode 205 63 = some (.return_, 1) := by decide +kernel
theorem d_206_0 : xcode 206 0 = some (.aload_n 0, 1) := by decide +kernel
theorem d_206_1 : xcode 206 1 = some (.iload_n 1, 1) := by decide +kernel
theorem d_206_2 : xcode 206 2 = some (.invokevirtual 218, 3) := by decide +kernel
theorem d_206_5 : xcode 206 5 = some (.ifCond .eq 8, 3) := by decide +kernel
theorem d_206_8 : xcode 206 8 = some (.bipush 32, 2) := by decide +kernel
theorem d_206_10 : xcode 206 10 = some (.goto 4, 3) := by decide +kernel
theorem d_206_13 : xcode 206 13 = some (.iconst 0, 1) := by decide +kernel
theorem d_206_14 : xcode 206 14 = some (.aload_n 0, 1) := by decide +kernel
theorem d_206_15 : xcode 206 15 = some (.getfield 13, 3) := by decide +kernel
theorem d_206_18 : xcode 206 18 = some (.iconst 3, 1) := by decide +kernel
theorem d_206_19 : xcode 206 19 = some (.iload_n 1, 1) := by decide +kernel
theorem d_206_20 : xcode 206 20 = some (.imul, 1) := by decide +kernel
theorem d_206_21 : xcode 206 21 = some (.iconst 2, 1) := by decide +kernel
theorem d_206_22 : xcode 206 22 = some (.iadd, 1) := by decide +kernel
theorem d_206_23 : xcode 206 23 = some (.laload, 1) := by decide +kernel
theorem d_206_24 : xcode 206 24 = some (.aload_n 0, 1) := by decide +kernel
theorem d_206_25 : xcode 206 25 = some (.iload_n 1, 1) := by decide +kernel
theorem d_206_26 : xcode 206 26 = some (.invokevirtual 221, 3) := by decide +kernel
theorem d_206_29 : xcode 206 29 = some (.lcmp, 1) := by decide +kernel
theorem d_206_30 : xcode 206 30 = some (.ifCond .eq 7, 3) := by decide +kernel
theorem d_206_33 : xcode 206 33 = some (.iconst 1, 1) := by decide +kernel
theorem d_206_34 : xcode 206 34 = some (.goto 4, 3) := by decide +kernel
theorem d_206_37 : xcode 206 37 = some (.iconst 0, 1) := by decide +kernel
theorem d_206_38 : xcode 206 38 = some (.iadd, 1) := by decide +kernel
theorem d_206_39 : xcode 206 39 = some (.aload_n 0, 1) := by decide +kernel
theorem d_206_40 : xcode 206 40 = some (.iload_n 1, 1) := by decide +kernel
theorem d_206_41 : xcode 206 41 = some (.invokevirtual 225, 3) := by decide +kernel
theorem d_206_44 : xcode 206 44 = some (.iload_n 1, 1) := by decide +kernel
theorem d_206_45 : xcode 206 45 = some (.invokestatic 228, 3) := by decide +kernel
theorem d_206_48 : xcode 206 48 = some (.if_icmp .eq 7, 3) := by decide +kernel
theorem d_206_51 : xcode 206 51 = some (.iconst 2, 1) := by decide +kernel
theorem d_206_52 : xcode 206 52 = some (.goto 4, 3) := by decide +kernel
theorem d_206_55 : xcode 206 55 = some (.iconst 0, 1) := by decide +kernel
theorem d_206_56 : xcode 206 56 = some (.iadd, 1) := by decide +kernel
theorem d_206_57 : xcode 206 57 = some (.aload_n 0, 1) := by decide +kernel
theorem d_206_58 : xcode 206 58 = some (.iload_n 1, 1) := by decide +kernel
theorem d_206_59 : xcode 206 59 = some (.invokevirtual 231, 3) := by decide +kernel
theorem d_206_62 : xcode 206 62 = some (.ifCond .eq 7, 3) := by decide +kernel
theorem d_206_65 : xcode 206 65 = some (.iconst 4, 1) := by decide +kernel
theorem d_206_66 : xcode 206 66 = some (.goto 4, 3) := by decide +kernel
theorem d_206_69 : xcode 206 69 = some (.iconst 0, 1) := by decide +kernel
theorem d_206_70 : xcode 206 70 = some (.iadd, 1) := by decide +kernel
theorem d_206_71 : xcode 206 71 = some (.aload_n 0, 1) := by decide +kernel
theorem d_206_72 : xcode 206 72 = some (.iload_n 1, 1) := by decide +kernel
theorem d_206_73 : xcode 206 73 = some (.invokevirtual 234, 3) := by decide +kernel
theorem d_206_76 : xcode 206 76 = some (.ifCond .eq 8, 3) := by decide +kernel
theorem d_206_79 : xcode 206 79 = some (.bipush 8, 2) := by decide +kernel
theorem d_206_81 : xcode 206 81 = some (.goto 4, 3) := by decide +kernel
theorem d_206_84 : xcode 206 84 = some (.iconst 0, 1) := by decide +kernel
theorem d_206_85 : xcode 206 85 = some (.iadd, 1) := by decide +kernel
theorem d_206_86 : xcode 206 86 = some (.aload_n 0, 1) := by decide +kernel
theorem d_206_87 : xcode 206 87 = some (.iload_n 1, 1) := by decide +kernel
theorem d_206_88 : xcode 206 88 = some (.invokevirtual 237, 3) := by decide +kernel
theorem d_206_91 : xcode 206 91 = some (.ifCond .eq 8, 3) := by decide +kernel
theorem d_206_94 : xcode 206 94 = some (.bipush 16, 2) := by decide +kernel
theorem d_206_96 : xcode 206 96 = some (.goto 4, 3) := by decide +kernel
theorem d_206_99 : xcode 206 99 = some (.iconst 0, 1) := by decide +kernel
theorem d_206_100 : xcode 206 100 = some (.iadd, 1) := by decide +kernel
theorem d_206_101 : xcode 206 101 = some (.ireturn, 1) := by decide +kernel
theorem d_207_0 : xcode 207 0 = some (.iload_n 1, 1) := by decide +kernel
theorem d_207_1 : xcode 207 1 = some (.iconst 2, 1) := by decide +kernel
theorem d_207_2 : xcode 207 2 = some (.irem, 1) := by decide +kernel
theorem d_207_3 : xcode 207 3 = some (.iconst 1, 1) := by decide +kernel
theorem d_207_4 : xcode 207 4 = some (.if_icmp .ne 5, 3) := by decide +kernel
theorem d_207_7 : xcode 207 7 = some (.iconst 0, 1) := by decide +kernel
theorem d_207_8 : xcode 207 8 = some (.ireturn, 1) := by decide +kernel
theorem d_207_9 : xcode 207 9 = some (.aload_n 0, 1) := by decide +kernel
theorem d_207_10 : xcode 207 10 = some (.lconst 0, 1) := by decide +kernel
theorem d_207_11 : xcode 207 11 = some (.putfield 107, 3) := by decide +kernel
theorem d_207_14 : xcode 207 14 = some (.aload_n 0, 1) := by decide +kernel
theorem d_207_15 : xcode 207 15 = some (.lconst 0, 1) := by decide +kernel
theorem d_207_16 : xcode 207 16 = some (.putfield 111, 3) := by decide +kernel
theorem d_207_19 : xcode 207 19 = some (.iload_n 1, 1) := by decide +kernel
theorem d_207_20 : xcode 207 20 = some (.istore_n 2, 1) := by decide +kernel
theorem d_207_21 : xcode 207 21 = some (.iload_n 2, 1) := by decide +kernel
theorem d_207_22 : xcode 207 22 = some (.ifCond .lt 31, 3) := by decide +kernel
theorem d_207_25 : xcode 207 25 = some (.aload_n 0, 1) := by decide +kernel
theorem d_207_26 : xcode 207 26 = some (.aload_n 0, 1) := by decide +kernel
theorem d_207_27 : xcode 207 27 = some (.getfield 13, 3) := by decide +kernel
theorem d_207_30 : xcode 207 30 = some (.aload_n 0, 1) := by decide +kernel
theorem d_207_31 : xcode 207 31 = some (.getfield 24, 3) := by decide +kernel
theorem d_207_34 : xcode 207 34 = some (.bipush 40, 2) := by decide +kernel
theorem d_207_36 : xcode 207 36 = some (.iload_n 1, 1) := by decide +kernel
theorem d_207_37 : xcode 207 37 = some (.iconst 3, 1) := by decide +kernel
theorem d_207_38 : xcode 207 38 = some (.iadd, 1) := by decide +kernel
theorem d_207_39 : xcode 207 39 = some (.imul, 1) := by decide +kernel
theorem d_207_40 : xcode 207 40 = some (.iload_n 2, 1) := by decide +kernel
theorem d_207_41 : xcode 207 41 = some (.iadd, 1) := by decide +kernel
theorem d_207_42 : xcode 207 42 = some (.laload, 1) := by decide +kernel
theorem d_207_43 : xcode 207 43 = some (.iload_n 2, 1) := by decide +kernel
theorem d_207_44 : xcode 207 44 = some (.invokevirtual 127, 3) := by decide +kernel
theorem d_207_47 : xcode 207 47 = some (.iinc 2 (-6), 3) := by decide +kernel
theorem d_207_50 : xcode 207 50 = some (.goto (-29), 3) := by decide +kernel
theorem d_207_53 : xcode 207 53 = some (.aload_n 0, 1) := by decide +kernel
theorem d_207_54 : xcode 207 54 = some (.dup, 1) := by decide +kernel
theorem d_207_55 : xcode 207 55 = some (.getfield 107, 3) := by decide +kernel
theorem d_207_58 : xcode 207 58 = some (.aload_n 0, 1) := by decide +kernel
theorem d_207_59 : xcode 207 59 = some (.getfield 111, 3) := by decide +kernel
theorem d_207_62 : xcode 207 62 = some (.ldc2_w 125, 3) := by decide +kernel
theorem d_207_65 : xcode 207 65 = some (.ldiv, 1) := by decide +kernel
theorem d_207_66 : xcode 207 66 = some (.ladd, 1) := by decide +kernel
theorem d_207_67 : xcode 207 67 = some (.putfield 107, 3) := by decide +kernel
theorem d_207_70 : xcode 207 70 = some (.aload_n 0, 1) := by decide +kernel
theorem d_207_71 : xcode 207 71 = some (.aload_n 0, 1) := by decide +kernel
theorem d_207_72 : xcode 207 72 = some (.getfield 111, 3) := by decide +kernel
theorem d_207_75 : xcode 207 75 = some (.ldc2_w 125, 3) := by decide +kernel
theorem d_207_78 : xcode 207 78 = some (.lrem, 1) := by decide +kernel
theorem d_207_79 : xcode 207 79 = some (.putfield 111, 3) := by decide +kernel
theorem d_207_82 : xcode 207 82 = some (.iload_n 1, 1) := by decide +kernel
theorem d_207_83 : xcode 207 83 = some (.bipush 6, 2) := by decide +kernel
theorem d_207_85 : xcode 207 85 = some (.irem, 1) := by decide +kernel
theorem d_207_86 : xcode 207 86 = some (.iconst 4, 1) := by decide +kernel
theorem d_207_87 : xcode 207 87 = some (.if_icmp .ne 11, 3) := by decide +kernel
theorem d_207_90 : xcode 207 90 = some (.iload_n 1, 1) := by decide +kernel
theorem d_207_91 : xcode 207 91 = some (.ineg, 1) := by decide +kernel
theorem d_207_92 : xcode 207 92 = some (.iconst 3, 1) := by decide +kernel
theorem d_207_93 : xcode 207 93 = some (.isub, 1) := by decide +kernel
theorem d_207_94 : xcode 207 94 = some (.i2l, 1) := by decide +kernel
theorem d_207_95 : xcode 207 95 = some (.goto 7, 3) := by decide +kernel
theorem d_207_98 : xcode 207 98 = some (.iload_n 1, 1) := by decide +kernel
theorem d_207_99 : xcode 207 99 = some (.iconst 3, 1) := by decide +kernel
theorem d_207_100 : xcode 207 100 = some (.iadd, 1) := by decide +kernel
theorem d_207_101 : xcode 207 101 = some (.i2l, 1) := by decide +kernel
theorem d_207_102 : xcode 207 102 = some (.lstore_n 2, 1) := by decide +kernel
theorem d_207_103 : xcode 207 103 = some (.iload_n 1, 1) := by decide +kernel
theorem d_207_104 : xcode 207 104 = some (.bipush 6, 2) := by decide +kernel
theorem d_207_106 : xcode 207 106 = some (.irem, 1) := by decide +kernel
theorem d_207_107 : xcode 207 107 = some (.iconst 4, 1) := by decide +kernel
theorem d_207_108 : xcode 207 108 = some (.if_icmp .ne 8, 3) := by decide +kernel
theorem d_207_111 : xcode 207 111 = some (.bipush 6, 2) := by decide +kernel
theorem d_207_113 : xcode 207 113 = some (.goto 4, 3) := by decide +kernel
theorem d_207_116 : xcode 207 116 = some (.iconst 3, 1) := by decide +kernel
theorem d_207_117 : xcode 207 117 = some (.istore 4, 2) := by decide +kernel
theorem d_207_119 : xcode 207 119 = some (.lload_n 2, 1) := by decide +kernel
theorem d_207_120 : xcode 207 120 = some (.iload 4, 2) := by decide +kernel
theorem d_207_122 : xcode 207 122 = some (.i2l, 1) := by decide +kernel
theorem d_207_123 : xcode 207 123 = some (.invokestatic 131, 3) := by decide +kernel
theorem d_207_126 : xcode 207 126 = some (.lstore 5, 2) := by decide +kernel
theorem d_207_128 : xcode 207 128 = some (.aload_n 0, 1) := by decide +kernel
theorem d_207_129 : xcode 207 129 = some (.getfield 107, 3) := by decide +kernel
theorem d_207_132 : xcode 207 132 = some (.lload 5, 2) := by decide +kernel
theorem d_207_134 : xcode 207 134 = some (.lcmp, 1) := by decide +kernel
theorem d_207_135 : xcode 207 135 = some (.ifCond .ne 27, 3) := by decide +kernel
theorem d_207_138 : xcode 207 138 = some (.aload_n 0, 1) := by decide +kernel
theorem d_207_139 : xcode 207 139 = some (.getfield 111, 3) := by decide +kernel
theorem d_207_142 : xcode 207 142 = some (.lload_n 2, 1) := by decide +kernel
theorem d_207_143 : xcode 207 143 = some (.lload 5, 2) := by decide +kernel
theorem d_207_145 : xcode 207 145 = some (.iload 4, 2) := by decide +kernel
theorem d_207_147 : xcode 207 147 = some (.i2l, 1) := by decide +kernel
theorem d_207_148 : xcode 207 148 = some (.lmul, 1) := by decide +kernel
theorem d_207_149 : xcode 207 149 = some (.lsub, 1) := by decide +kernel
theorem d_207_150 : xcode 207 150 = some (.ldc2_w 125, 3) := by decide +kernel
theorem d_207_153 : xcode 207 153 = some (.iload 4, 2) := by decide +kernel
theorem d_207_155 : xcode 207 155 = some (.i2l, 1) := by decide +kernel
theorem d_207_156 : xcode 207 156 = some (.ldiv, 1) := by decide +kernel
theorem d_207_157 : xcode 207 157 = some (.lmul, 1) := by decide +kernel
theorem d_207_158 : xcode 207 158 = some (.lcmp, 1) := by decide +kernel
theorem d_207_159 : xcode 207 159 = some (.ifCond .eq 7, 3) := by decide +kernel
theorem d_207_162 : xcode 207 162 = some (.iconst 1, 1) := by decide +kernel
theorem d_207_163 : xcode 207 163 = some (.goto 4, 3) := by decide +kernel
theorem d_207_166 : xcode 207 166 = some (.iconst 0, 1) := by decide +kernel
theorem d_207_167 : xcode 207 167 = some (.ireturn, 1) := by decide +kernel
theorem d_208_0 : xcode 208 0 = some (.iload_n 1, 1) := by decide +kernel
theorem d_208_1 : xcode 208 1 = some (.iconst 1, 1) := by decide +kernel
theorem d_208_2 : xcode 208 2 = some (.if_icmp .ne 7, 3) := by decide +kernel
theorem d_208_5 : xcode 208 5 = some (.ldc2_w 216, 3) := by decide +kernel
theorem d_208_8 : xcode 208 8 = some (.lreturn, 1) := by decide +kernel
theorem d_208_9 : xcode 208 9 = some (.iload_n 1, 1) := by decide +kernel
theorem d_208_10 : xcode 208 10 = some (.iconst 2, 1) := by decide +kernel
theorem d_208_11 : xcode 208 11 = some (.irem, 1) := by decide +kernel
theorem d_208_12 : xcode 208 12 = some (.iconst 1, 1) := by decide +kernel
theorem d_208_13 : xcode 208 13 = some (.if_icmp .eq 7, 3) := by decide +kernel
theorem d_208_16 : xcode 208 16 = some (.iload_n 1, 1) := by decide +kernel
theorem d_208_17 : xcode 208 17 = some (.ifCond .ne 5, 3) := by decide +kernel
theorem d_208_20 : xcode 208 20 = some (.lconst 1, 1) := by decide +kernel
theorem d_208_21 : xcode 208 21 = some (.lreturn, 1) := by decide +kernel
theorem d_208_22 : xcode 208 22 = some (.lconst 1, 1) := by decide +kernel
theorem d_208_23 : xcode 208 23 = some (.lstore_n 2, 1) := by decide +kernel
theorem d_208_24 : xcode 208 24 = some (.iconst 0, 1) := by decide +kernel
theorem d_208_25 : xcode 208 25 = some (.istore 4, 2) := by decide +kernel
theorem d_208_27 : xcode 208 27 = some (.aload_n 0, 1) := by decide +kernel
theorem d_208_28 : xcode 208 28 = some (.getfield 27, 3) := by decide +kernel
theorem d_208_31 : xcode 208 31 = some (.iload 4, 2) := by decide +kernel
theorem d_208_33 : xcode 208 33 = some (.iaload, 1) := by decide +kernel
theorem d_208_34 : xcode 208 34 = some (.iload_n 1, 1) := by decide +kernel
theorem d_208_35 : xcode 208 35 = some (.iconst 1, 1) := by decide +kernel
theorem d_208_36 : xcode 208 36 = some (.iadd, 1) := by decide +kernel
theorem d_208_37 : xcode 208 37 = some (.if_icmp .gt 34, 3) := by decide +kernel
theorem d_208_40 : xcode 208 40 = some (.iload_n 1, 1) := by decide +kernel
theorem d_208_41 : xcode 208 41 = some (.aload_n 0, 1) := by decide +kernel
theorem d_208_42 : xcode 208 42 = some (.getfield 27, 3) := by decide +kernel
theorem d_208_45 : xcode 208 45 = some (.iload 4, 2) := by decide +kernel
theorem d_208_47 : xcode 208 47 = some (.iaload, 1) := by decide +kernel
theorem d_208_48 : xcode 208 48 = some (.iconst 1, 1) := by decide +kernel
theorem d_208_49 : xcode 208 49 = some (.isub, 1) := by decide +kernel
theorem d_208_50 : xcode 208 50 = some (.irem, 1) := by decide +kernel
theorem d_208_51 : xcode 208 51 = some (.ifCond .ne 14, 3) := by decide +kernel
theorem d_208_54 : xcode 208 54 = some (.lload_n 2, 1) := by decide +kernel
theorem d_208_55 : xcode 208 55 = some (.aload_n 0, 1) := by decide +kernel
theorem d_208_56 : xcode 208 56 = some (.getfield 27, 3) := by decide +kernel
theorem d_208_59 : xcode 208 59 = some (.iload 4, 2) := by decide +kernel
theorem d_208_61 : xcode 208 61 = some (.iaload, 1) := by decide +kernel
theorem d_208_62 : xcode 208 62 = some (.i2l, 1) := by decide +kernel
theorem d_208_63 : xcode 208 63 = some (.lmul, 1) := by decide +kernel
theorem d_208_64 : xcode 208 64 = some (.lstore_n 2, 1) := by decide +kernel
theorem d_208_65 : xcode 208 65 = some (.iinc 4 1, 3) := by decide +kernel
theorem d_208_68 : xcode 208 68 = some (.goto (-41), 3) := by decide +kernel
theorem d_208_71 : xcode 208 71 = some (.lload_n 2, 1) := by decide +kernel
theorem d_208_72 : xcode 208 72 = some (.lreturn, 1) := by decide +kernel
theorem d_209_0 : xcode 209 0 = some (.aload_n 0, 1) := by decide +kernel
theorem d_209_1 : xcode 209 1 = some (.getfield 13, 3) := by decide +kernel
theorem d_209_4 : xcode 209 4 = some (.iconst 3, 1) := by decide +kernel
theorem d_209_5 : xcode 209 5 = some (.iload_n 1, 1) := by decide +kernel
theorem d_209_6 : xcode 209 6 = some (.imul, 1) := by decide +kernel
theorem d_209_7 : xcode 209 7 = some (.laload, 1) := by decide +kernel
theorem d_209_8 : xcode 209 8 = some (.lconst 0, 1) := by decide +kernel
theorem d_209_9 : xcode 209 9 = some (.lcmp, 1) := by decide +kernel
theorem d_209_10 : xcode 209 10 = some (.ifCond .ge 7, 3) := by decide +kernel
theorem d_209_13 : xcode 209 13 = some (.iconst (-1), 1) := by decide +kernel
theorem d_209_14 : xcode 209 14 = some (.goto 36, 3) := by decide +kernel
theorem d_209_17 : xcode 209 17 = some (.aload_n 0, 1) := by decide +kernel
theorem d_209_18 : xcode 209 18 = some (.getfield 13, 3) := by decide +kernel
theorem d_209_21 : xcode 209 21 = some (.iconst 3, 1) := by decide +kernel
theorem d_209_22 : xcode 209 22 = some (.iload_n 1, 1) := by decide +kernel
theorem d_209_23 : xcode 209 23 = some (.imul, 1) := by decide +kernel
theorem d_209_24 : xcode 209 24 = some (.laload, 1) := by decide +kernel
theorem d_209_25 : xcode 209 25 = some (.lconst 0, 1) := by decide +kernel
theorem d_209_26 : xcode 209 26 = some (.lcmp, 1) := by decide +kernel
theorem d_209_27 : xcode 209 27 = some (.ifCond .gt 18, 3) := by decide +kernel
theorem d_209_30 : xcode 209 30 = some (.aload_n 0, 1) := by decide +kernel
theorem d_209_31 : xcode 209 31 = some (.getfield 13, 3) := by decide +kernel
theorem d_209_34 : xcode 209 34 = some (.iconst 3, 1) := by decide +kernel
theorem d_209_35 : xcode 209 35 = some (.iload_n 1, 1) := by decide +kernel
theorem d_209_36 : xcode 209 36 = some (.imul, 1) := by decide +kernel
theorem d_209_37 : xcode 209 37 = some (.iconst 1, 1) := by decide +kernel
theorem d_209_38 : xcode 209 38 = some (.iadd, 1) := by decide +kernel
theorem d_209_39 : xcode 209 39 = some (.laload, 1) := by decide +kernel
theorem d_209_40 : xcode 209 40 = some (.lconst 0, 1) := by decide +kernel
theorem d_209_41 : xcode 209 41 = some (.lcmp, 1) := by decide +kernel
theorem d_209_42 : xcode 209 42 = some (.ifCond .le 7, 3) := by decide +kernel
theorem d_209_45 : xcode 209 45 = some (.iconst 1, 1) := by decide +kernel
theorem d_209_46 : xcode 209 46 = some (.goto 4, 3) := by decide +kernel
theorem d_209_49 : xcode 209 49 = some (.iconst 0, 1) := by decide +kernel
theorem d_209_50 : xcode 209 50 = some (.ireturn, 1) := by decide +kernel
theorem d_210_0 : xcode 210 0 = some (.iload_n 0, 1) := by decide +kernel
theorem d_210_1 : xcode 210 1 = some (.ifCond .ne 7, 3) := by decide +kernel
theorem d_210_4 : xcode 210 4 = some (.iconst 1, 1) := by decide +kernel
theorem d_210_5 : xcode 210 5 = some (.goto 35, 3) := by decide +kernel
theorem d_210_8 : xcode 210 8 = some (.iload_n 0, 1) := by decide +kernel
theorem d_210_9 : xcode 210 9 = some (.iconst 1, 1) := by decide +kernel
theorem d_210_10 : xcode 210 10 = some (.if_icmp .ne 7, 3) := by decide +kernel
theorem d_210_13 : xcode 210 13 = some (.iconst (-1), 1) := by decide +kernel
theorem d_210_14 : xcode 210 14 = some (.goto 26, 3) := by decide +kernel
theorem d_210_17 : xcode 210 17 = some (.iload_n 0, 1) := by decide +kernel
theorem d_210_18 : xcode 210 18 = some (.iconst 2, 1) := by decide +kernel
theorem d_210_19 : xcode 210 19 = some (.irem, 1) := by decide +kernel
theorem d_210_20 : xcode 210 20 = some (.iconst 1, 1) := by decide +kernel
theorem d_210_21 : xcode 210 21 = some (.if_icmp .ne 7, 3) := by decide +kernel
theorem d_210_24 : xcode 210 24 = some (.iconst 0, 1) := by decide +kernel
theorem d_210_25 : xcode 210 25 = some (.goto 15, 3) := by decide +kernel
theorem d_210_28 : xcode 210 28 = some (.iload_n 0, 1) := by decide +kernel
theorem d_210_29 : xcode 210 29 = some (.iconst 4, 1) := by decide +kernel
theorem d_210_30 : xcode 210 30 = some (.irem, 1) := by decide +kernel
theorem d_210_31 : xcode 210 31 = some (.iconst 2, 1) := by decide +kernel
theorem d_210_32 : xcode 210 32 = some (.if_icmp .ne 7, 3) := by decide +kernel
theorem d_210_35 : xcode 210 35 = some (.iconst 1, 1) := by decide +kernel
theorem d_210_36 : xcode 210 36 = some (.goto 4, 3) := by decide +kernel
theorem d_210_39 : xcode 210 39 = some (.iconst (-1), 1) := by decide +kernel
theorem d_210_40 : xcode 210 40 = some (.ireturn, 1) := by decide +kernel
theorem d_211_0 : xcode 211 0 = some (.iload_n 1, 1) := by decide +kernel
theorem d_211_1 : xcode 211 1 = some (.iconst 1, 1) := by decide +kernel
theorem d_211_2 : xcode 211 2 = some (.if_icmp .ge 5, 3) := by decide +kernel
theorem d_211_5 : xcode 211 5 = some (.iconst 0, 1) := by decide +kernel
theorem d_211_6 : xcode 211 6 = some (.ireturn, 1) := by decide +kernel
theorem d_211_7 : xcode 211 7 = some (.aload_n 0, 1) := by decide +kernel
theorem d_211_8 : xcode 211 8 = some (.aload_n 0, 1) := by decide +kernel
theorem d_211_9 : xcode 211 9 = some (.getfield 13, 3) := by decide +kernel
theorem d_211_12 : xcode 211 12 = some (.iload_n 1, 1) := by decide +kernel
theorem d_211_13 : xcode 211 13 = some (.iconst 1, 1) := by decide +kernel
theorem d_211_14 : xcode 211 14 = some (.iadd, 1) := by decide +kernel
theorem d_211_15 : xcode 211 15 = some (.iload_n 1, 1) := by decide +kernel
theorem d_211_16 : xcode 211 16 = some (.invokevirtual 103, 3) := by decide +kernel
theorem d_211_19 : xcode 211 19 = some (.aload_n 0, 1) := by decide +kernel
theorem d_211_20 : xcode 211 20 = some (.getfield 107, 3) := by decide +kernel
theorem d_211_23 : xcode 211 23 = some (.lconst 0, 1) := by decide +kernel
theorem d_211_24 : xcode 211 24 = some (.lcmp, 1) := by decide +kernel
theorem d_211_25 : xcode 211 25 = some (.ifCond .ne 12, 3) := by decide +kernel
theorem d_211_28 : xcode 211 28 = some (.aload_n 0, 1) := by decide +kernel
theorem d_211_29 : xcode 211 29 = some (.getfield 111, 3) := by decide +kernel
theorem d_211_32 : xcode 211 32 = some (.lconst 0, 1) := by decide +kernel
theorem d_211_33 : xcode 211 33 = some (.lcmp, 1) := by decide +kernel
theorem d_211_34 : xcode 211 34 = some (.ifCond .eq 7, 3) := by decide +kernel
theorem d_211_37 : xcode 211 37 = some (.iconst 1, 1) := by decide +kernel
theorem d_211_38 : xcode 211 38 = some (.goto 4, 3) := by decide +kernel
theorem d_211_41 : xcode 211 41 = some (.iconst 0, 1) := by decide +kernel
theorem d_211_42 : xcode 211 42 = some (.ireturn, 1) := by decide +kernel
theorem d_212_0 : xcode 212 0 = some (.iconst 2, 1) := by decide +kernel
theorem d_212_1 : xcode 212 1 = some (.istore_n 2, 1) := by decide +kernel
theorem d_212_2 : xcode 212 2 = some (.aload_n 0, 1) := by decide +kernel
theorem d_212_3 : xcode 212 3 = some (.getfield 27, 3) := by decide +kernel
theorem d_212_6 : xcode 212 6 = some (.iload_n 2, 1) := by decide +kernel
theorem d_212_7 : xcode 212 7 = some (.iaload, 1) := by decide +kernel
theorem d_212_8 : xcode 212 8 = some (.bipush 37, 2) := by decide +kernel
theorem d_212_10 : xcode 212 10 = some (.if_icmp .gt 39, 3) := by decide +kernel
theorem d_212_13 : xcode 212 13 = some (.iconst 2, 1) := by decide +kernel
theorem d_212_14 : xcode 212 14 = some (.istore_n 3, 1) := by decide +kernel
theorem d_212_15 : xcode 212 15 = some (.iload_n 3, 1) := by decide +kernel
theorem d_212_16 : xcode 212 16 = some (.iload_n 1, 1) := by decide +kernel
theorem d_212_17 : xcode 212 17 = some (.if_icmp .ge 26, 3) := by decide +kernel
theorem d_212_20 : xcode 212 20 = some (.aload_n 0, 1) := by decide +kernel
theorem d_212_21 : xcode 212 21 = some (.aload_n 0, 1) := by decide +kernel
theorem d_212_22 : xcode 212 22 = some (.getfield 27, 3) := by decide +kernel
theorem d_212_25 : xcode 212 25 = some (.iload_n 2, 1) := by decide +kernel
theorem d_212_26 : xcode 212 26 = some (.iaload, 1) := by decide +kernel
theorem d_212_27 : xcode 212 27 = some (.iload_n 3, 1) := by decide +kernel
theorem d_212_28 : xcode 212 28 = some (.iload_n 1, 1) := by decide +kernel
theorem d_212_29 : xcode 212 29 = some (.invokevirtual 205, 3) := by decide +kernel
theorem d_212_32 : xcode 212 32 = some (.ifCond .le 5, 3) := by decide +kernel
theorem d_212_35 : xcode 212 35 = some (.iconst 1, 1) := by decide +kernel
theorem d_212_36 : xcode 212 36 = some (.ireturn, 1) := by decide +kernel
theorem d_212_37 : xcode 212 37 = some (.iinc 3 2, 3) := by decide +kernel
theorem d_212_40 : xcode 212 40 = some (.goto (-25), 3) := by decide +kernel
theorem d_212_43 : xcode 212 43 = some (.iinc 2 1, 3) := by decide +kernel
theorem d_212_46 : xcode 212 46 = some (.goto (-44), 3) := by decide +kernel
theorem d_212_49 : xcode 212 49 = some (.iconst 0, 1) := by decide +kernel
theorem d_212_50 : xcode 212 50 = some (.ireturn, 1) := by decide +kernel
theorem d_213_0 : xcode 213 0 = some (.iload_n 2, 1) := by decide +kernel
theorem d_213_1 : xcode 213 1 = some (.iconst 2, 1) := by decide +kernel
theorem d_213_2 : xcode 213 2 = some (.if_icmp .lt 52, 3) := by decide +kernel
theorem d_213_5 : xcode 213 5 = some (.iload_n 3, 1) := by decide +kernel
theorem d_213_6 : xcode 213 6 = some (.iconst 2, 1) := by decide +kernel
theorem d_213_7 : xcode 213 7 = some (.if_icmp .lt 47, 3) := by decide +kernel
theorem d_213_10 : xcode 213 10 = some (.iload_n 2, 1) := by decide +kernel
theorem d_213_11 : xcode 213 11 = some (.iconst 2, 1) := by decide +kernel
theorem d_213_12 : xcode 213 12 = some (.irem, 1) := by decide +kernel
theorem d_213_13 : xcode 213 13 = some (.iconst 1, 1) := by decide +kernel
theorem d_213_14 : xcode 213 14 = some (.if_icmp .eq 40, 3) := by decide +kernel
theorem d_213_17 : xcode 213 17 = some (.iload_n 3, 1) := by decide +kernel
theorem d_213_18 : xcode 213 18 = some (.iconst 2, 1) := by decide +kernel
theorem d_213_19 : xcode 213 19 = some (.irem, 1) := by decide +kernel
theorem d_213_20 : xcode 213 20 = some (.iconst 1, 1) := by decide +kernel
theorem d_213_21 : xcode 213 21 = some (.if_icmp .eq 33, 3) := by decide +kernel
theorem d_213_24 : xcode 213 24 = some (.iload_n 2, 1) := by decide +kernel
theorem d_213_25 : xcode 213 25 = some (.iload_n 3, 1) := by decide +kernel
theorem d_213_26 : xcode 213 26 = some (.isub, 1) := by decide +kernel
theorem d_213_27 : xcode 213 27 = some (.iload_n 1, 1) := by decide +kernel
theorem d_213_28 : xcode 213 28 = some (.iconst 1, 1) := by decide +kernel
theorem d_213_29 : xcode 213 29 = some (.isub, 1) := by decide +kernel
theorem d_213_30 : xcode 213 30 = some (.irem, 1) := by decide +kernel
theorem d_213_31 : xcode 213 31 = some (.ifCond .ne 23, 3) := by decide +kernel
theorem d_213_34 : xcode 213 34 = some (.iload_n 2, 1) := by decide +kernel
theorem d_213_35 : xcode 213 35 = some (.iload_n 1, 1) := by decide +kernel
theorem d_213_36 : xcode 213 36 = some (.iconst 1, 1) := by decide +kernel
theorem d_213_37 : xcode 213 37 = some (.isub, 1) := by decide +kernel
theorem d_213_38 : xcode 213 38 = some (.irem, 1) := by decide +kernel
theorem d_213_39 : xcode 213 39 = some (.ifCond .eq 15, 3) := by decide +kernel
theorem d_213_42 : xcode 213 42 = some (.iload_n 2, 1) := by decide +kernel
theorem d_213_43 : xcode 213 43 = some (.iload_n 1, 1) := by decide +kernel
theorem d_213_44 : xcode 213 44 = some (.irem, 1) := by decide +kernel
theorem d_213_45 : xcode 213 45 = some (.ifCond .eq 9, 3) := by decide +kernel
theorem d_213_48 : xcode 213 48 = some (.iload_n 3, 1) := by decide +kernel
theorem d_213_49 : xcode 213 49 = some (.iload_n 1, 1) := by decide +kernel
theorem d_213_50 : xcode 213 50 = some (.irem, 1) := by decide +kernel
theorem d_213_51 : xcode 213 51 = some (.ifCond .ne 6, 3) := by decide +kernel
theorem d_213_54 : xcode 213 54 = some (.bipush (-3), 2) := by decide +kernel
theorem d_213_56 : xcode 213 56 = some (.ireturn, 1) := by decide +kernel
theorem d_213_57 : xcode 213 57 = some (.aload_n 0, 1) := by decide +kernel
theorem d_213_58 : xcode 213 58 = some (.aload_n 0, 1) := by decide +kernel
theorem d_213_59 : xcode 213 59 = some (.getfield 13, 3) := by decide +kernel
theorem d_213_62 : xcode 213 62 = some (.iload_n 2, 1) := by decide +kernel
theorem d_213_63 : xcode 213 63 = some (.iload_n 1, 1) := by decide +kernel
theorem d_213_64 : xcode 213 64 = some (.invokevirtual 188, 3) := by decide +kernel
theorem d_213_67 : xcode 213 67 = some (.istore 4, 2) := by decide +kernel
theorem d_213_69 : xcode 213 69 = some (.aload_n 0, 1) := by decide +kernel
theorem d_213_70 : xcode 213 70 = some (.aload_n 0, 1) := by decide +kernel
theorem d_213_71 : xcode 213 71 = some (.getfield 13, 3) := by decide +kernel
theorem d_213_74 : xcode 213 74 = some (.iload_n 3, 1) := by decide +kernel
theorem d_213_75 : xcode 213 75 = some (.iload_n 1, 1) := by decide +kernel
theorem d_213_76 : xcode 213 76 = some (.invokevirtual 188, 3) := by decide +kernel
theorem d_213_79 : xcode 213 79 = some (.istore 5, 2) := by decide +kernel
theorem d_213_81 : xcode 213 81 = some (.iload 4, 2) := by decide +kernel
theorem d_213_83 : xcode 213 83 = some (.ifCond .lt 8, 3) := by decide +kernel
theorem d_213_86 : xcode 213 86 = some (.iload 5, 2) := by decide +kernel
theorem d_213_88 : xcode 213 88 = some (.ifCond .ge 6, 3) := by decide +kernel
theorem d_213_91 : xcode 213 91 = some (.bipush (-3), 2) := by decide +kernel
theorem d_213_93 : xcode 213 93 = some (.ireturn, 1) := by decide +kernel
theorem d_213_94 : xcode 213 94 = some (.iload 4, 2) := by decide +kernel
theorem d_213_96 : xcode 213 96 = some (.i2l, 1) := by decide +kernel
theorem d_213_97 : xcode 213 97 = some (.iload_n 2, 1) := by decide +kernel
theorem d_213_98 : xcode 213 98 = some (.iload_n 1, 1) := by decide +kernel
theorem d_213_99 : xcode 213 99 = some (.irem, 1) := by decide +kernel
theorem d_213_100 : xcode 213 100 = some (.iload_n 1, 1) := by decide +kernel
theorem d_213_101 : xcode 213 101 = some (.iconst 2, 1) := by decide +kernel
theorem d_213_102 : xcode 213 102 = some (.isub, 1) := by decide +kernel
theorem d_213_103 : xcode 213 103 = some (.iload_n 1, 1) := by decide +kernel
theorem d_213_104 : xcode 213 104 = some (.invokestatic 174, 3) := by decide +kernel
theorem d_213_107 : xcode 213 107 = some (.i2l, 1) := by decide +kernel
theorem d_213_108 : xcode 213 108 = some (.lmul, 1) := by decide +kernel
theorem d_213_109 : xcode 213 109 = some (.iload 5, 2) := by decide +kernel
theorem d_213_111 : xcode 213 111 = some (.i2l, 1) := by decide +kernel
theorem d_213_112 : xcode 213 112 = some (.iload_n 3, 1) := by decide +kernel
theorem d_213_113 : xcode 213 113 = some (.iload_n 1, 1) := by decide +kernel
theorem d_213_114 : xcode 213 114 = some (.irem, 1) := by decide +kernel
theorem d_213_115 : xcode 213 115 = some (.iload_n 1, 1) := by decide +kernel
theorem d_213_116 : xcode 213 116 = some (.iconst 2, 1) := by decide +kernel
theorem d_213_117 : xcode 213 117 = some (.isub, 1) := by decide +kernel
theorem d_213_118 : xcode 213 118 = some (.iload_n 1, 1) := by decide +kernel
theorem d_213_119 : xcode 213 119 = some (.invokestatic 174, 3) := by decide +kernel
theorem d_213_122 : xcode 213 122 = some (.i2l, 1) := by decide +kernel
theorem d_213_123 : xcode 213 123 = some (.lmul, 1) := by decide +kernel
theorem d_213_124 : xcode 213 124 = some (.lsub, 1) := by decide +kernel
theorem d_213_125 : xcode 213 125 = some (.iload_n 1, 1) := by decide +kernel
theorem d_213_126 : xcode 213 126 = some (.invokestatic 170, 3) := by decide +kernel
theorem d_213_129 : xcode 213 129 = some (.ireturn, 1) := by decide +kernel
theorem d_214_0 : xcode 214 0 = some (.aload_n 1, 1) := by decide +kernel
theorem d_214_1 : xcode 214 1 = some (.iconst 3, 1) := by decide +kernel
theorem d_214_2 : xcode 214 2 = some (.iload_n 2, 1) := by decide +kernel
theorem d_214_3 : xcode 214 3 = some (.imul, 1) := by decide +kernel
theorem d_214_4 : xcode 214 4 = some (.iconst 2, 1) := by decide +kernel
theorem d_214_5 : xcode 214 5 = some (.iadd, 1) := by decide +kernel
theorem d_214_6 : xcode 214 6 = some (.laload, 1) := by decide +kernel
theorem d_214_7 : xcode 214 7 = some (.iload_n 3, 1) := by decide +kernel
theorem d_214_8 : xcode 214 8 = some (.invokestatic 170, 3) := by decide +kernel
theorem d_214_11 : xcode 214 11 = some (.istore 4, 2) := by decide +kernel
theorem d_214_13 : xcode 214 13 = some (.iload 4, 2) := by decide +kernel
theorem d_214_15 : xcode 214 15 = some (.ifCond .ne 6, 3) := by decide +kernel
theorem d_214_18 : xcode 214 18 = some (.bipush (-3), 2) := by decide +kernel
theorem d_214_20 : xcode 214 20 = some (.ireturn, 1) := by decide +kernel
theorem d_214_21 : xcode 214 21 = some (.aload_n 1, 1) := by decide +kernel
theorem d_214_22 : xcode 214 22 = some (.iconst 3, 1) := by decide +kernel
theorem d_214_23 : xcode 214 23 = some (.iload_n 2, 1) := by decide +kernel
theorem d_214_24 : xcode 214 24 = some (.imul, 1) := by decide +kernel
theorem d_214_25 : xcode 214 25 = some (.laload, 1) := by decide +kernel
theorem d_214_26 : xcode 214 26 = some (.iload_n 3, 1) := by decide +kernel
theorem d_214_27 : xcode 214 27 = some (.invokestatic 170, 3) := by decide +kernel
theorem d_214_30 : xcode 214 30 = some (.i2l, 1) := by decide +kernel
theorem d_214_31 : xcode 214 31 = some (.aload_n 1, 1) := by decide +kernel
theorem d_214_32 : xcode 214 32 = some (.iconst 3, 1) := by decide +kernel
theorem d_214_33 : xcode 214 33 = some (.iload_n 2, 1) := by decide +kernel
theorem d_214_34 : xcode 214 34 = some (.imul, 1) := by decide +kernel
theorem d_214_35 : xcode 214 35 = some (.iconst 1, 1) := by decide +kernel
theorem d_214_36 : xcode 214 36 = some (.iadd, 1) := by decide +kernel
theorem d_214_37 : xcode 214 37 = some (.laload, 1) := by decide +kernel
theorem d_214_38 : xcode 214 38 = some (.iload_n 3, 1) := by decide +kernel
theorem d_214_39 : xcode 214 39 = some (.invokestatic 170, 3) := by decide +kernel
theorem d_214_42 : xcode 214 42 = some (.i2l, 1) := by decide +kernel
theorem d_214_43 : xcode 214 43 = some (.iload 4, 2) := by decide +kernel
theorem d_214_45 : xcode 214 45 = some (.iload_n 3, 1) := by decide +kernel
theorem d_214_46 : xcode 214 46 = some (.iconst 2, 1) := by decide +kernel
theorem d_214_47 : xcode 214 47 = some (.isub, 1) := by decide +kernel
theorem d_214_48 : xcode 214 48 = some (.iload_n 3, 1) := by decide +kernel
theorem d_214_49 : xcode 214 49 = some (.invokestatic 174, 3) := by decide +kernel
theorem d_214_52 : xcode 214 52 = some (.i2l, 1) := by decide +kernel
theorem d_214_53 : xcode 214 53 = some (.lmul, 1) := by decide +kernel
theorem d_214_54 : xcode 214 54 = some (.ladd, 1) := by decide +kernel
theorem d_214_55 : xcode 214 55 = some (.iload_n 3, 1) := by decide +kernel
theorem d_214_56 : xcode 214 56 = some (.invokestatic 170, 3) := by decide +kernel
theorem d_214_59 : xcode 214 59 = some (.ireturn, 1) := by decide +kernel
theorem d_215_0 : xcode 215 0 = some (.lload_n 0, 1) := by decide +kernel
theorem d_215_1 : xcode 215 1 = some (.iload_n 2, 1) := by decide +kernel
theorem d_215_2 : xcode 215 2 = some (.i2l, 1) := by decide +kernel
theorem d_215_3 : xcode 215 3 = some (.lrem, 1) := by decide +kernel
theorem d_215_4 : xcode 215 4 = some (.lstore_n 3, 1) := by decide +kernel
theorem d_215_5 : xcode 215 5 = some (.lload_n 3, 1) := by decide +kernel
theorem d_215_6 : xcode 215 6 = some (.lconst 0, 1) := by decide +kernel
theorem d_215_7 : xcode 215 7 = some (.lcmp, 1) := by decide +kernel
theorem d_215_8 : xcode 215 8 = some (.ifCond .ge 10, 3) := by decide +kernel
theorem d_215_11 : xcode 215 11 = some (.lload_n 3, 1) := by decide +kernel
theorem d_215_12 : xcode 215 12 = some (.iload_n 2, 1) := by decide +kernel
theorem d_215_13 : xcode 215 13 = some (.i2l, 1) := by decide +kernel
theorem d_215_14 : xcode 215 14 = some (.ladd, 1) := by decide +kernel
theorem d_215_15 : xcode 215 15 = some (.goto 4, 3) := by decide +kernel
theorem d_215_18 : xcode 215 18 = some (.lload_n 3, 1) := by decide +kernel
theorem d_215_19 : xcode 215 19 = some (.l2i, 1) := by decide +kernel
theorem d_215_20 : xcode 215 20 = some (.ireturn, 1) := by decide +kernel
theorem d_216_0 : xcode 216 0 = some (.lconst 1, 1) := by decide +kernel
theorem d_216_1 : xcode 216 1 = some (.lstore_n 3, 1) := by decide +kernel
theorem d_216_2 : xcode 216 2 = some (.iconst 0, 1) := by decide +kernel
theorem d_216_3 : xcode 216 3 = some (.istore 5, 2) := by decide +kernel
theorem d_216_5 : xcode 216 5 = some (.iload 5, 2) := by decide +kernel
theorem d_216_7 : xcode 216 7 = some (.iload_n 1, 1) := by decide +kernel
theorem d_216_8 : xcode 216 8 = some (.if_icmp .ge 17, 3) := by decide +kernel
theorem d_216_11 : xcode 216 11 = some (.lload_n 3, 1) := by decide +kernel
theorem d_216_12 : xcode 216 12 = some (.iload_n 0, 1) := by decide +kernel
theorem d_216_13 : xcode 216 13 = some (.i2l, 1) := by decide +kernel
theorem d_216_14 : xcode 216 14 = some (.lmul, 1) := by decide +kernel
theorem d_216_15 : xcode 216 15 = some (.iload_n 2, 1) := by decide +kernel
theorem d_216_16 : xcode 216 16 = some (.i2l, 1) := by decide +kernel
theorem d_216_17 : xcode 216 17 = some (.lrem, 1) := by decide +kernel
theorem d_216_18 : xcode 216 18 = some (.lstore_n 3, 1) := by decide +kernel
theorem d_216_19 : xcode 216 19 = some (.iinc 5 1, 3) := by decide +kernel
theorem d_216_22 : xcode 216 22 = some (.goto (-17), 3) := by decide +kernel
theorem d_216_25 : xcode 216 25 = some (.lload_n 3, 1) := by decide +kernel
theorem d_216_26 : xcode 216 26 = some (.l2i, 1) := by decide +kernel
theorem d_216_27 : xcode 216 27 = some (.ireturn, 1) := by decide +kernel
theorem d_217_0 : xcode 217 0 = some (.iload_n 1, 1) := by decide +kernel
theorem d_217_1 : xcode 217 1 = some (.iconst 2, 1) := by decide +kernel
theorem d_217_2 : xcode 217 2 = some (.if_icmp .lt 10, 3) := by decide +kernel
theorem d_217_5 : xcode 217 5 = some (.iload_n 1, 1) := by decide +kernel
theorem d_217_6 : xcode 217 6 = some (.iconst 2, 1) := by decide +kernel
theorem d_217_7 : xcode 217 7 = some (.irem, 1) := by decide +kernel
theorem d_217_8 : xcode 217 8 = some (.iconst 1, 1) := by decide +kernel
theorem d_217_9 : xcode 217 9 = some (.if_icmp .ne 5, 3) := by decide +kernel
theorem d_217_12 : xcode 217 12 = some (.iconst 0, 1) := by decide +kernel
theorem d_217_13 : xcode 217 13 = some (.ireturn, 1) := by decide +kernel
theorem d_217_14 : xcode 217 14 = some (.iconst 2, 1) := by decide +kernel
theorem d_217_15 : xcode 217 15 = some (.istore_n 2, 1) := by decide +kernel
theorem d_217_16 : xcode 217 16 = some (.aload_n 0, 1) := by decide +kernel
theorem d_217_17 : xcode 217 17 = some (.getfield 27, 3) := by decide +kernel
theorem d_217_20 : xcode 217 20 = some (.iload_n 2, 1) := by decide +kernel
theorem d_217_21 : xcode 217 21 = some (.iaload, 1) := by decide +kernel
theorem d_217_22 : xcode 217 22 = some (.iload_n 1, 1) := by decide +kernel
theorem d_217_23 : xcode 217 23 = some (.if_icmp .gt 53, 3) := by decide +kernel
theorem d_217_26 : xcode 217 26 = some (.iload_n 1, 1) := by decide +kernel
theorem d_217_27 : xcode 217 27 = some (.aload_n 0, 1) := by decide +kernel
theorem d_217_28 : xcode 217 28 = some (.getfield 27, 3) := by decide +kernel
theorem d_217_31 : xcode 217 31 = some (.iload_n 2, 1) := by decide +kernel
theorem d_217_32 : xcode 217 32 = some (.iaload, 1) := by decide +kernel
theorem d_217_33 : xcode 217 33 = some (.irem, 1) := by decide +kernel
theorem d_217_34 : xcode 217 34 = some (.ifCond .ne 36, 3) := by decide +kernel
theorem d_217_37 : xcode 217 37 = some (.iload_n 1, 1) := by decide +kernel
theorem d_217_38 : xcode 217 38 = some (.aload_n 0, 1) := by decide +kernel
theorem d_217_39 : xcode 217 39 = some (.getfield 27, 3) := by decide +kernel
theorem d_217_42 : xcode 217 42 = some (.iload_n 2, 1) := by decide +kernel
theorem d_217_43 : xcode 217 43 = some (.iaload, 1) := by decide +kernel
theorem d_217_44 : xcode 217 44 = some (.iconst 1, 1) := by decide +kernel
theorem d_217_45 : xcode 217 45 = some (.isub, 1) := by decide +kernel
theorem d_217_46 : xcode 217 46 = some (.irem, 1) := by decide +kernel
theorem d_217_47 : xcode 217 47 = some (.ifCond .eq 23, 3) := by decide +kernel
theorem d_217_50 : xcode 217 50 = some (.aload_n 0, 1) := by decide +kernel
theorem d_217_51 : xcode 217 51 = some (.aload_n 0, 1) := by decide +kernel
theorem d_217_52 : xcode 217 52 = some (.getfield 13, 3) := by decide +kernel
theorem d_217_55 : xcode 217 55 = some (.iload_n 1, 1) := by decide +kernel
theorem d_217_56 : xcode 217 56 = some (.aload_n 0, 1) := by decide +kernel
theorem d_217_57 : xcode 217 57 = some (.getfield 27, 3) := by decide +kernel
theorem d_217_60 : xcode 217 60 = some (.iload_n 2, 1) := by decide +kernel
theorem d_217_61 : xcode 217 61 = some (.iaload, 1) := by decide +kernel
theorem d_217_62 : xcode 217 62 = some (.invokevirtual 188, 3) := by decide +kernel
theorem d_217_65 : xcode 217 65 = some (.ifCond .eq 5, 3) := by decide +kernel
theorem d_217_68 : xcode 217 68 = some (.iconst 1, 1) := by decide +kernel
theorem d_217_69 : xcode 217 69 = some (.ireturn, 1) := by decide +kernel
theorem d_217_70 : xcode 217 70 = some (.iinc 2 1, 3) := by decide +kernel
theorem d_217_73 : xcode 217 73 = some (.goto (-57), 3) := by decide +kernel
theorem d_217_76 : xcode 217 76 = some (.iconst 0, 1) := by decide +kernel
theorem d_217_77 : xcode 217 77 = some (.ireturn, 1) := by decide +kernel
theorem d_218_0 : xcode 218 0 = some (.aload_n 0, 1) := by decide +kernel
theorem d_218_1 : xcode 218 1 = some (.iconst 0, 1) := by decide +kernel
theorem d_218_2 : xcode 218 2 = some (.putfield 118, 3) := by decide +kernel
theorem d_218_5 : xcode 218 5 = some (.iload_n 2, 1) := by decide +kernel
theorem d_218_6 : xcode 218 6 = some (.iconst 0, 1) := by decide +kernel
theorem d_218_7 : xcode 218 7 = some (.iconst 2, 1) := by decide +kernel
theorem d_218_8 : xcode 218 8 = some (.invokestatic 137, 3) := by decide +kernel
theorem d_218_11 : xcode 218 11 = some (.ifCond .ne 8, 3) := by decide +kernel
theorem d_218_14 : xcode 218 14 = some (.aload_n 0, 1) := by decide +kernel
theorem d_218_15 : xcode 218 15 = some (.invokevirtual 162, 3) := by decide +kernel
theorem d_218_18 : xcode 218 18 = some (.lreturn, 1) := by decide +kernel
theorem d_218_19 : xcode 218 19 = some (.iload_n 1, 1) := by decide +kernel
theorem d_218_20 : xcode 218 20 = some (.iconst 0, 1) := by decide +kernel
theorem d_218_21 : xcode 218 21 = some (.aload_n 0, 1) := by decide +kernel
theorem d_218_22 : xcode 218 22 = some (.getfield 20, 3) := by decide +kernel
theorem d_218_25 : xcode 218 25 = some (.invokestatic 137, 3) := by decide +kernel
theorem d_218_28 : xcode 218 28 = some (.ifCond .eq 16, 3) := by decide +kernel
theorem d_218_31 : xcode 218 31 = some (.aload_n 0, 1) := by decide +kernel
theorem d_218_32 : xcode 218 32 = some (.getfield 13, 3) := by decide +kernel
theorem d_218_35 : xcode 218 35 = some (.iconst 3, 1) := by decide +kernel
theorem d_218_36 : xcode 218 36 = some (.iload_n 1, 1) := by decide +kernel
theorem d_218_37 : xcode 218 37 = some (.imul, 1) := by decide +kernel
theorem d_218_38 : xcode 218 38 = some (.iload_n 2, 1) := by decide +kernel
theorem d_218_39 : xcode 218 39 = some (.iadd, 1) := by decide +kernel
theorem d_218_40 : xcode 218 40 = some (.laload, 1) := by decide +kernel
theorem d_218_41 : xcode 218 41 = some (.goto 6, 3) := by decide +kernel
theorem d_218_44 : xcode 218 44 = some (.ldc2_w 166, 3) := by decide +kernel
theorem d_218_47 : xcode 218 47 = some (.lreturn, 1) := by decide +kernel
theorem d_219_0 : xcode 219 0 = some (.aload_n 0, 1) := by decide +kernel
theorem d_219_1 : xcode 219 1 = some (.iconst 1, 1) := by decide +kernel
theorem d_219_2 : xcode 219 2 = some (.putfield 118, 3) := by decide +kernel
theorem d_219_5 : xcode 219 5 = some (.lconst 0, 1) := by decide +kernel
theorem d_219_6 : xcode 219 6 = some (.lreturn, 1) := by decide +kernel
theorem d_220_0 : xcode 220 0 = some (.aload_n 0, 1) := by decide +kernel
theorem d_220_1 : xcode 220 1 = some (.iconst 0, 1) := by decide +kernel
theorem d_220_2 : xcode 220 2 = some (.putfield 118, 3) := by decide +kernel
theorem d_220_5 : xcode 220 5 = some (.aload_n 0, 1) := by decide +kernel
theorem d_220_6 : xcode 220 6 = some (.iload_n 1, 1) := by decide +kernel
theorem d_220_7 : xcode 220 7 = some (.invokevirtual 145, 3) := by decide +kernel
theorem d_220_10 : xcode 220 10 = some (.ifCond .ne 7, 3) := by decide +kernel
theorem d_220_13 : xcode 220 13 = some (.iconst (-1), 1) := by decide +kernel
theorem d_220_14 : xcode 220 14 = some (.goto 22, 3) := by decide +kernel
theorem d_220_17 : xcode 220 17 = some (.iload_n 1, 1) := by decide +kernel
theorem d_220_18 : xcode 220 18 = some (.aload_n 0, 1) := by decide +kernel
theorem d_220_19 : xcode 220 19 = some (.getfield 20, 3) := by decide +kernel
theorem d_220_22 : xcode 220 22 = some (.if_icmp .le 8, 3) := by decide +kernel
theorem d_220_25 : xcode 220 25 = some (.bipush (-2), 2) := by decide +kernel
theorem d_220_27 : xcode 220 27 = some (.goto 9, 3) := by decide +kernel
theorem d_220_30 : xcode 220 30 = some (.aload_n 0, 1) := by decide +kernel
theorem d_220_31 : xcode 220 31 = some (.getfield 16, 3) := by decide +kernel
theorem d_220_34 : xcode 220 34 = some (.iload_n 1, 1) := by decide +kernel
theorem d_220_35 : xcode 220 35 = some (.iaload, 1) := by decide +kernel
theorem d_220_36 : xcode 220 36 = some (.ireturn, 1) := by decide +kernel
theorem d_221_0 : xcode 221 0 = some (.aload_n 0, 1) := by decide +kernel
theorem d_221_1 : xcode 221 1 = some (.iconst 0, 1) := by decide +kernel
theorem d_221_2 : xcode 221 2 = some (.putfield 118, 3) := by decide +kernel
theorem d_221_5 : xcode 221 5 = some (.aload_n 0, 1) := by decide +kernel
theorem d_221_6 : xcode 221 6 = some (.iload_n 1, 1) := by decide +kernel
theorem d_221_7 : xcode 221 7 = some (.invokevirtual 145, 3) := by decide +kernel
theorem d_221_10 : xcode 221 10 = some (.ifCond .ne 7, 3) := by decide +kernel
theorem d_221_13 : xcode 221 13 = some (.iconst (-1), 1) := by decide +kernel
theorem d_221_14 : xcode 221 14 = some (.goto 29, 3) := by decide +kernel
theorem d_221_17 : xcode 221 17 = some (.iload_n 1, 1) := by decide +kernel
theorem d_221_18 : xcode 221 18 = some (.aload_n 0, 1) := by decide +kernel
theorem d_221_19 : xcode 221 19 = some (.getfield 20, 3) := by decide +kernel
theorem d_221_22 : xcode 221 22 = some (.if_icmp .le 8, 3) := by decide +kernel
theorem d_221_25 : xcode 221 25 = some (.bipush (-2), 2) := by decide +kernel
theorem d_221_27 : xcode 221 27 = some (.goto 16, 3) := by decide +kernel
theorem d_221_30 : xcode 221 30 = some (.aload_n 0, 1) := by decide +kernel
theorem d_221_31 : xcode 221 31 = some (.iload_n 1, 1) := by decide +kernel
theorem d_221_32 : xcode 221 32 = some (.invokevirtual 141, 3) := by decide +kernel
theorem d_221_35 : xcode 221 35 = some (.ifCond .eq 7, 3) := by decide +kernel
theorem d_221_38 : xcode 221 38 = some (.iconst 1, 1) := by decide +kernel
theorem d_221_39 : xcode 221 39 = some (.goto 4, 3) := by decide +kernel
theorem d_221_42 : xcode 221 42 = some (.iconst 0, 1) := by decide +kernel
theorem d_221_43 : xcode 221 43 = some (.ireturn, 1) := by decide +kernel
theorem d_222_0 : xcode 222 0 = some (.aload_n 0, 1) := by decide +kernel
theorem d_222_1 : xcode 222 1 = some (.iconst 0, 1) := by decide +kernel
theorem d_222_2 : xcode 222 2 = some (.putfield 118, 3) := by decide +kernel
theorem d_222_5 : xcode 222 5 = some (.aload_n 0, 1) := by decide +kernel
theorem d_222_6 : xcode 222 6 = some (.iload_n 1, 1) := by decide +kernel
theorem d_222_7 : xcode 222 7 = some (.invokevirtual 145, 3) := by decide +kernel
theorem d_222_10 : xcode 222 10 = some (.ifCond .ne 5, 3) := by decide +kernel
theorem d_222_13 : xcode 222 13 = some (.iconst (-1), 1) := by decide +kernel
theorem d_222_14 : xcode 222 14 = some (.ireturn, 1) := by decide +kernel
theorem d_222_15 : xcode 222 15 = some (.iload_n 1, 1) := by decide +kernel
theorem d_222_16 : xcode 222 16 = some (.aload_n 0, 1) := by decide +kernel
theorem d_222_17 : xcode 222 17 = some (.getfield 20, 3) := by decide +kernel
theorem d_222_20 : xcode 222 20 = some (.if_icmp .le 6, 3) := by decide +kernel
theorem d_222_23 : xcode 222 23 = some (.bipush (-2), 2) := by decide +kernel
theorem d_222_25 : xcode 222 25 = some (.ireturn, 1) := by decide +kernel
theorem d_222_26 : xcode 222 26 = some (.aload_n 0, 1) := by decide +kernel
theorem d_222_27 : xcode 222 27 = some (.iload_n 1, 1) := by decide +kernel
theorem d_222_28 : xcode 222 28 = some (.invokevirtual 141, 3) := by decide +kernel
theorem d_222_31 : xcode 222 31 = some (.ifCond .ne 7, 3) := by decide +kernel
theorem d_222_34 : xcode 222 34 = some (.iconst 0, 1) := by decide +kernel
theorem d_222_35 : xcode 222 35 = some (.goto 18, 3) := by decide +kernel
theorem d_222_38 : xcode 222 38 = some (.aload_n 0, 1) := by decide +kernel
theorem d_222_39 : xcode 222 39 = some (.iload_n 1, 1) := by decide +kernel
theorem d_222_40 : xcode 222 40 = some (.iconst 1, 1) := by decide +kernel
theorem d_222_41 : xcode 222 41 = some (.isub, 1) := by decide +kernel
theorem d_222_42 : xcode 222 42 = some (.invokevirtual 148, 3) := by decide +kernel
theorem d_222_45 : xcode 222 45 = some (.ifCond .eq 7, 3) := by decide +kernel
theorem d_222_48 : xcode 222 48 = some (.iconst 3, 1) := by decide +kernel
theorem d_222_49 : xcode 222 49 = some (.goto 4, 3) := by decide +kernel
theorem d_222_52 : xcode 222 52 = some (.iconst 2, 1) := by decide +kernel
theorem d_222_53 : xcode 222 53 = some (.ireturn, 1) := by decide +kernel
theorem d_223_0 : xcode 223 0 = some (.aload_n 0, 1) := by decide +kernel
theorem d_223_1 : xcode 223 1 = some (.iconst 0, 1) := by decide +kernel
theorem d_223_2 : xcode 223 2 = some (.putfield 118, 3) := by decide +kernel
theorem d_223_5 : xcode 223 5 = some (.aload_n 0, 1) := by decide +kernel
theorem d_223_6 : xcode 223 6 = some (.iload_n 1, 1) := by decide +kernel
theorem d_223_7 : xcode 223 7 = some (.invokevirtual 145, 3) := by decide +kernel
theorem d_223_10 : xcode 223 10 = some (.ifCond .eq 7, 3) := by decide +kernel
theorem d_223_13 : xcode 223 13 = some (.iload_n 2, 1) := by decide +kernel
theorem d_223_14 : xcode 223 14 = some (.ifCond .ge 5, 3) := by decide +kernel
theorem d_223_17 : xcode 223 17 = some (.iconst (-1), 1) := by decide +kernel
theorem d_223_18 : xcode 223 18 = some (.ireturn, 1) := by decide +kernel
theorem d_223_19 : xcode 223 19 = some (.iload_n 2, 1) := by decide +kernel
theorem d_223_20 : xcode 223 20 = some (.istore_n 3, 1) := by decide +kernel
theorem d_223_21 : xcode 223 21 = some (.iconst 0, 1) := by decide +kernel
theorem d_223_22 : xcode 223 22 = some (.istore 4, 2) := by decide +kernel
theorem d_223_24 : xcode 223 24 = some (.iload 4, 2) := by decide +kernel
theorem d_223_26 : xcode 223 26 = some (.aload_n 0, 1) := by decide +kernel
theorem d_223_27 : xcode 223 27 = some (.getfield 96, 3) := by decide +kernel
theorem d_223_30 : xcode 223 30 = some (.if_icmp .ge 51, 3) := by decide +kernel
theorem d_223_33 : xcode 223 33 = some (.aload_n 0, 1) := by decide +kernel
theorem d_223_34 : xcode 223 34 = some (.getfield 7, 3) := by decide +kernel
theorem d_223_37 : xcode 223 37 = some (.iconst 3, 1) := by decide +kernel
theorem d_223_38 : xcode 223 38 = some (.iload_n 1, 1) := by decide +kernel
theorem d_223_39 : xcode 223 39 = some (.imul, 1) := by decide +kernel
theorem d_223_40 : xcode 223 40 = some (.iconst 2, 1) := by decide +kernel
theorem d_223_41 : xcode 223 41 = some (.iadd, 1) := by decide +kernel
theorem d_223_42 : xcode 223 42 = some (.laload, 1) := by decide +kernel
theorem d_223_43 : xcode 223 43 = some (.aload_n 0, 1) := by decide +kernel
theorem d_223_44 : xcode 223 44 = some (.getfield 27, 3) := by decide +kernel
theorem d_223_47 : xcode 223 47 = some (.iload 4, 2) := by decide +kernel
theorem d_223_49 : xcode 223 49 = some (.iaload, 1) := by decide +kernel
theorem d_223_50 : xcode 223 50 = some (.i2l, 1) := by decide +kernel
theorem d_223_51 : xcode 223 51 = some (.lrem, 1) := by decide +kernel
theorem d_223_52 : xcode 223 52 = some (.lconst 0, 1) := by decide +kernel
theorem d_223_53 : xcode 223 53 = some (.lcmp, 1) := by decide +kernel
theorem d_223_54 : xcode 223 54 = some (.ifCond .eq 6, 3) := by decide +kernel
theorem d_223_57 : xcode 223 57 = some (.goto 18, 3) := by decide +kernel
theorem d_223_60 : xcode 223 60 = some (.iload_n 3, 1) := by decide +kernel
theorem d_223_61 : xcode 223 61 = some (.ifCond .ne 11, 3) := by decide +kernel
theorem d_223_64 : xcode 223 64 = some (.aload_n 0, 1) := by decide +kernel
theorem d_223_65 : xcode 223 65 = some (.getfield 27, 3) := by decide +kernel
theorem d_223_68 : xcode 223 68 = some (.iload 4, 2) := by decide +kernel
theorem d_223_70 : xcode 223 70 = some (.iaload, 1) := by decide +kernel
theorem d_223_71 : xcode 223 71 = some (.ireturn, 1) := by decide +kernel
theorem d_223_72 : xcode 223 72 = some (.iinc 3 (-1), 3) := by decide +kernel
theorem d_223_75 : xcode 223 75 = some (.iinc 4 1, 3) := by decide +kernel
theorem d_223_78 : xcode 223 78 = some (.goto (-54), 3) := by decide +kernel
theorem d_223_81 : xcode 223 81 = some (.bipush (-2), 2) := by decide +kernel
theorem d_223_83 : xcode 223 83 = some (.ireturn, 1) := by decide +kernel
theorem d_224_0 : xcode 224 0 = some (.aload_n 0, 1) := by decide +kernel
theorem d_224_1 : xcode 224 1 = some (.iconst 0, 1) := by decide +kernel
theorem d_224_2 : xcode 224 2 = some (.putfield 118, 3) := by decide +kernel
theorem d_224_5 : xcode 224 5 = some (.iload_n 1, 1) := by decide +kernel
theorem d_224_6 : xcode 224 6 = some (.iconst 2, 1) := by decide +kernel
theorem d_224_7 : xcode 224 7 = some (.bipush 38, 2) := by decide +kernel
theorem d_224_9 : xcode 224 9 = some (.invokestatic 137, 3) := by decide +kernel
theorem d_224_12 : xcode 224 12 = some (.ifCond .eq 10, 3) := by decide +kernel
theorem d_224_15 : xcode 224 15 = some (.iload_n 1, 1) := by decide +kernel
theorem d_224_16 : xcode 224 16 = some (.iconst 2, 1) := by decide +kernel
theorem d_224_17 : xcode 224 17 = some (.irem, 1) := by decide +kernel
theorem d_224_18 : xcode 224 18 = some (.iconst 1, 1) := by decide +kernel
theorem d_224_19 : xcode 224 19 = some (.if_icmp .ne 7, 3) := by decide +kernel
theorem d_224_22 : xcode 224 22 = some (.ldc2_w 166, 3) := by decide +kernel
theorem d_224_25 : xcode 224 25 = some (.lreturn, 1) := by decide +kernel
theorem d_224_26 : xcode 224 26 = some (.aload_n 0, 1) := by decide +kernel
theorem d_224_27 : xcode 224 27 = some (.getfield 7, 3) := by decide +kernel
theorem d_224_30 : xcode 224 30 = some (.iconst 3, 1) := by decide +kernel
theorem d_224_31 : xcode 224 31 = some (.iload_n 1, 1) := by decide +kernel
theorem d_224_32 : xcode 224 32 = some (.imul, 1) := by decide +kernel
theorem d_224_33 : xcode 224 33 = some (.iconst 1, 1) := by decide +kernel
theorem d_224_34 : xcode 224 34 = some (.iadd, 1) := by decide +kernel
theorem d_224_35 : xcode 224 35 = some (.laload, 1) := by decide +kernel
theorem d_224_36 : xcode 224 36 = some (.lstore_n 2, 1) := by decide +kernel
theorem d_224_37 : xcode 224 37 = some (.aload_n 0, 1) := by decide +kernel
theorem d_224_38 : xcode 224 38 = some (.getfield 7, 3) := by decide +kernel
theorem d_224_41 : xcode 224 41 = some (.iconst 3, 1) := by decide +kernel
theorem d_224_42 : xcode 224 42 = some (.iload_n 1, 1) := by decide +kernel
theorem d_224_43 : xcode 224 43 = some (.imul, 1) := by decide +kernel
theorem d_224_44 : xcode 224 44 = some (.iconst 2, 1) := by decide +kernel
theorem d_224_45 : xcode 224 45 = some (.iadd, 1) := by decide +kernel
theorem d_224_46 : xcode 224 46 = some (.laload, 1) := by decide +kernel
theorem d_224_47 : xcode 224 47 = some (.lstore 4, 2) := by decide +kernel
theorem d_224_49 : xcode 224 49 = some (.iconst 0, 1) := by decide +kernel
theorem d_224_50 : xcode 224 50 = some (.istore 6, 2) := by decide +kernel
theorem d_224_52 : xcode 224 52 = some (.iload 6, 2) := by decide +kernel
theorem d_224_54 : xcode 224 54 = some (.aload_n 0, 1) := by decide +kernel
theorem d_224_55 : xcode 224 55 = some (.getfield 96, 3) := by decide +kernel
theorem d_224_58 : xcode 224 58 = some (.if_icmp .ge 39, 3) := by decide +kernel
theorem d_224_61 : xcode 224 61 = some (.lload 4, 2) := by decide +kernel
theorem d_224_63 : xcode 224 63 = some (.aload_n 0, 1) := by decide +kernel
theorem d_224_64 : xcode 224 64 = some (.getfield 27, 3) := by decide +kernel
theorem d_224_67 : xcode 224 67 = some (.iload 6, 2) := by decide +kernel
theorem d_224_69 : xcode 224 69 = some (.iaload, 1) := by decide +kernel
theorem d_224_70 : xcode 224 70 = some (.i2l, 1) := by decide +kernel
theorem d_224_71 : xcode 224 71 = some (.lrem, 1) := by decide +kernel
theorem d_224_72 : xcode 224 72 = some (.lconst 0, 1) := by decide +kernel
theorem d_224_73 : xcode 224 73 = some (.lcmp, 1) := by decide +kernel
theorem d_224_74 : xcode 224 74 = some (.ifCond .ne 17, 3) := by decide +kernel
theorem d_224_77 : xcode 224 77 = some (.lload_n 2, 1) := by decide +kernel
theorem d_224_78 : xcode 224 78 = some (.lload 4, 2) := by decide +kernel
theorem d_224_80 : xcode 224 80 = some (.aload_n 0, 1) := by decide +kernel
theorem d_224_81 : xcode 224 81 = some (.getfield 27, 3) := by decide +kernel
theorem d_224_84 : xcode 224 84 = some (.iload 6, 2) := by decide +kernel
theorem d_224_86 : xcode 224 86 = some (.iaload, 1) := by decide +kernel
theorem d_224_87 : xcode 224 87 = some (.i2l, 1) := by decide +kernel
theorem d_224_88 : xcode 224 88 = some (.ldiv, 1) := by decide +kernel
theorem d_224_89 : xcode 224 89 = some (.ladd, 1) := by decide +kernel
theorem d_224_90 : xcode 224 90 = some (.lstore_n 2, 1) := by decide +kernel
theorem d_224_91 : xcode 224 91 = some (.iinc 6 1, 3) := by decide +kernel
theorem d_224_94 : xcode 224 94 = some (.goto (-42), 3) := by decide +kernel
theorem d_224_97 : xcode 224 97 = some (.aload_n 0, 1) := by decide +kernel
theorem d_224_98 : xcode 224 98 = some (.getfield 7, 3) := by decide +kernel
theorem d_224_101 : xcode 224 101 = some (.iconst 3, 1) := by decide +kernel
theorem d_224_102 : xcode 224 102 = some (.iload_n 1, 1) := by decide +kernel
theorem d_224_103 : xcode 224 103 = some (.imul, 1) := by decide +kernel
theorem d_224_104 : xcode 224 104 = some (.laload, 1) := by decide +kernel
theorem d_224_105 : xcode 224 105 = some (.lload_n 2, 1) := by decide +kernel
theorem d_224_106 : xcode 224 106 = some (.lload 4, 2) := by decide +kernel
theorem d_224_108 : xcode 224 108 = some (.ldiv, 1) := by decide +kernel
theorem d_224_109 : xcode 224 109 = some (.ladd, 1) := by decide +kernel
theorem d_224_110 : xcode 224 110 = some (.lreturn, 1) := by decide +kernel
theorem d_225_0 : xcode 225 0 = some (.aload_n 0, 1) := by decide +kernel
theorem d_225_1 : xcode 225 1 = some (.iconst 0, 1) := by decide +kernel
theorem d_225_2 : xcode 225 2 = some (.putfield 118, 3) := by decide +kernel
theorem d_225_5 : xcode 225 5 = some (.iload_n 1, 1) := by decide +kernel
theorem d_225_6 : xcode 225 6 = some (.ifCond .lt 36, 3) := by decide +kernel
theorem d_225_9 : xcode 225 9 = some (.iload_n 2, 1) := by decide +kernel
theorem d_225_10 : xcode 225 10 = some (.ifCond .lt 32, 3) := by decide +kernel
theorem d_225_13 : xcode 225 13 = some (.iload_n 1, 1) := by decide +kernel
theorem d_225_14 : xcode 225 14 = some (.bipush 38, 2) := by decide +kernel
theorem d_225_16 : xcode 225 16 = some (.if_icmp .gt 26, 3) := by decide +kernel
theorem d_225_19 : xcode 225 19 = some (.iload_n 2, 1) := by decide +kernel
theorem d_225_20 : xcode 225 20 = some (.bipush 38, 2) := by decide +kernel
theorem d_225_22 : xcode 225 22 = some (.if_icmp .gt 20, 3) := by decide +kernel
theorem d_225_25 : xcode 225 25 = some (.iload_n 1, 1) := by decide +kernel
theorem d_225_26 : xcode 225 26 = some (.iload_n 2, 1) := by decide +kernel
theorem d_225_27 : xcode 225 27 = some (.iadd, 1) := by decide +kernel
theorem d_225_28 : xcode 225 28 = some (.bipush 38, 2) := by decide +kernel
theorem d_225_30 : xcode 225 30 = some (.if_icmp .gt 12, 3) := by decide +kernel
theorem d_225_33 : xcode 225 33 = some (.iload_n 3, 1) := by decide +kernel
theorem d_225_34 : xcode 225 34 = some (.iconst 0, 1) := by decide +kernel
theorem d_225_35 : xcode 225 35 = some (.iconst 2, 1) := by decide +kernel
theorem d_225_36 : xcode 225 36 = some (.invokestatic 137, 3) := by decide +kernel
theorem d_225_39 : xcode 225 39 = some (.ifCond .ne 7, 3) := by decide +kernel
theorem d_225_42 : xcode 225 42 = some (.ldc2_w 166, 3) := by decide +kernel
theorem d_225_45 : xcode 225 45 = some (.lreturn, 1) := by decide +kernel
theorem d_225_46 : xcode 225 46 = some (.iconst 0, 1) := by decide +kernel
theorem d_225_47 : xcode 225 47 = some (.istore 4, 2) := by decide +kernel
theorem d_225_49 : xcode 225 49 = some (.iload 4, 2) := by decide +kernel
theorem d_225_51 : xcode 225 51 = some (.bipush 38, 2) := by decide +kernel
theorem d_225_53 : xcode 225 53 = some (.if_icmp .gt 51, 3) := by decide +kernel
theorem d_225_56 : xcode 225 56 = some (.aload_n 0, 1) := by decide +kernel
theorem d_225_57 : xcode 225 57 = some (.getfield 30, 3) := by decide +kernel
theorem d_225_60 : xcode 225 60 = some (.iload 4, 2) := by decide +kernel
theorem d_225_62 : xcode 225 62 = some (.iload 4, 2) := by decide +kernel
theorem d_225_64 : xcode 225 64 = some (.ifCond .ne 7, 3) := by decide +kernel
theorem d_225_67 : xcode 225 67 = some (.lconst 1, 1) := by decide +kernel
theorem d_225_68 : xcode 225 68 = some (.goto 4, 3) := by decide +kernel
theorem d_225_71 : xcode 225 71 = some (.lconst 0, 1) := by decide +kernel
theorem d_225_72 : xcode 225 72 = some (.lastore, 1) := by decide +kernel
theorem d_225_73 : xcode 225 73 = some (.aload_n 0, 1) := by decide +kernel
theorem d_225_74 : xcode 225 74 = some (.getfield 33, 3) := by decide +kernel
theorem d_225_77 : xcode 225 77 = some (.iload 4, 2) := by decide +kernel
theorem d_225_79 : xcode 225 79 = some (.iload 4, 2) := by decide +kernel
theorem d_225_81 : xcode 225 81 = some (.ifCond .ne 7, 3) := by decide +kernel
theorem d_225_84 : xcode 225 84 = some (.lconst 0, 1) := by decide +kernel
theorem d_225_85 : xcode 225 85 = some (.goto 12, 3) := by decide +kernel
theorem d_225_88 : xcode 225 88 = some (.ldc2_w 168, 3) := by decide +kernel
theorem d_225_91 : xcode 225 91 = some (.iload 4, 2) := by decide +kernel
theorem d_225_93 : xcode 225 93 = some (.iconst 1, 1) := by decide +kernel
theorem d_225_94 : xcode 225 94 = some (.iadd, 1) := by decide +kernel
theorem d_225_95 : xcode 225 95 = some (.i2l, 1) := by decide +kernel
theorem d_225_96 : xcode 225 96 = some (.ldiv, 1) := by decide +kernel
theorem d_225_97 : xcode 225 97 = some (.lastore, 1) := by decide +kernel
theorem d_225_98 : xcode 225 98 = some (.iinc 4 1, 3) := by decide +kernel
theorem d_225_101 : xcode 225 101 = some (.goto (-52), 3) := by decide +kernel
theorem d_225_104 : xcode 225 104 = some (.iconst 1, 1) := by decide +kernel
theorem d_225_105 : xcode 225 105 = some (.istore 4, 2) := by decide +kernel
theorem d_225_107 : xcode 225 107 = some (.iload 4, 2) := by decide +kernel
theorem d_225_109 : xcode 225 109 = some (.iload_n 1, 1) := by decide +kernel
theorem d_225_110 : xcode 225 110 = some (.if_icmp .gt 112, 3) := by decide +kernel
theorem d_225_113 : xcode 225 113 = some (.iconst 0, 1) := by decide +kernel
theorem d_225_114 : xcode 225 114 = some (.istore 5, 2) := by decide +kernel
theorem d_225_116 : xcode 225 116 = some (.iload 5, 2) := by decide +kernel
theorem d_225_118 : xcode 225 118 = some (.iload 4, 2) := by decide +kernel
theorem d_225_120 : xcode 225 120 = some (.iadd, 1) := by decide +kernel
theorem d_225_121 : xcode 225 121 = some (.bipush 38, 2) := by decide +kernel
theorem d_225_123 : xcode 225 123 = some (.if_icmp .gt 93, 3) := by decide +kernel
theorem d_225_126 : xcode 225 126 = some (.iload 5, 2) := by decide +kernel
theorem d_225_128 : xcode 225 128 = some (.iconst 1, 1) := by decide +kernel
theorem d_225_129 : xcode 225 129 = some (.iadd, 1) := by decide +kernel
theorem d_225_130 : xcode 225 130 = some (.i2l, 1) := by decide +kernel
theorem d_225_131 : xcode 225 131 = some (.aload_n 0, 1) := by decide +kernel
theorem d_225_132 : xcode 225 132 = some (.getfield 33, 3) := by decide +kernel
theorem d_225_135 : xcode 225 135 = some (.iload 5, 2) := by decide +kernel
theorem d_225_137 : xcode 225 137 = some (.laload, 1) := by decide +kernel
theorem d_225_138 : xcode 225 138 = some (.aload_n 0, 1) := by decide +kernel
theorem d_225_139 : xcode 225 139 = some (.getfield 33, 3) := by decide +kernel
theorem d_225_142 : xcode 225 142 = some (.iload 5, 2) := by decide +kernel
theorem d_225_144 : xcode 225 144 = some (.iconst 1, 1) := by decide +kernel
theorem d_225_145 : xcode 225 145 = some (.iadd, 1) := by decide +kernel
theorem d_225_146 : xcode 225 146 = some (.laload, 1) := by decide +kernel
theorem d_225_147 : xcode 225 147 = some (.lsub, 1) := by decide +kernel
theorem d_225_148 : xcode 225 148 = some (.lmul, 1) := by decide +kernel
theorem d_225_149 : xcode 225 149 = some (.lstore 6, 2) := by decide +kernel
theorem d_225_151 : xcode 225 151 = some (.lload 6, 2) := by decide +kernel
theorem d_225_153 : xcode 225 153 = some (.ldc2_w 168, 3) := by decide +kernel
theorem d_225_156 : xcode 225 156 = some (.invokestatic 131, 3) := by decide +kernel
theorem d_225_159 : xcode 225 159 = some (.lstore 8, 2) := by decide +kernel
theorem d_225_161 : xcode 225 161 = some (.aload_n 0, 1) := by decide +kernel
theorem d_225_162 : xcode 225 162 = some (.getfield 30, 3) := by decide +kernel
theorem d_225_165 : xcode 225 165 = some (.iload 5, 2) := by decide +kernel
theorem d_225_167 : xcode 225 167 = some (.iload 5, 2) := by decide +kernel
theorem d_225_169 : xcode 225 169 = some (.iconst 1, 1) := by decide +kernel
theorem d_225_170 : xcode 225 170 = some (.iadd, 1) := by decide +kernel
theorem d_225_171 : xcode 225 171 = some (.i2l, 1) := by decide +kernel
theorem d_225_172 : xcode 225 172 = some (.aload_n 0, 1) := by decide +kernel
theorem d_225_173 : xcode 225 173 = some (.getfield 30, 3) := by decide +kernel
theorem d_225_176 : xcode 225 176 = some (.iload 5, 2) := by decide +kernel
theorem d_225_178 : xcode 225 178 = some (.laload, 1) := by decide +kernel
theorem d_225_179 : xcode 225 179 = some (.aload_n 0, 1) := by decide +kernel
theorem d_225_180 : xcode 225 180 = some (.getfield 30, 3) := by decide +kernel
theorem d_225_183 : xcode 225 183 = some (.iload 5, 2) := by decide +kernel
theorem d_225_185 : xcode 225 185 = some (.iconst 1, 1) := by decide +kernel
theorem d_225_186 : xcode 225 186 = some (.iadd, 1) := by decide +kernel
theorem d_225_187 : xcode 225 187 = some (.laload, 1) := by decide +kernel
theorem d_225_188 : xcode 225 188 = some (.lsub, 1) := by decide +kernel
theorem d_225_189 : xcode 225 189 = some (.lmul, 1) := by decide +kernel
theorem d_225_190 : xcode 225 190 = some (.lload 8, 2) := by decide +kernel
theorem d_225_192 : xcode 225 192 = some (.ladd, 1) := by decide +kernel
theorem d_225_193 : xcode 225 193 = some (.lastore, 1) := by decide +kernel
theorem d_225_194 : xcode 225 194 = some (.aload_n 0, 1) := by decide +kernel
theorem d_225_195 : xcode 225 195 = some (.getfield 33, 3) := by decide +kernel
theorem d_225_198 : xcode 225 198 = some (.iload 5, 2) := by decide +kernel
theorem d_225_200 : xcode 225 200 = some (.lload 6, 2) := by decide +kernel
theorem d_225_202 : xcode 225 202 = some (.lload 8, 2) := by decide +kernel
theorem d_225_204 : xcode 225 204 = some (.ldc2_w 168, 3) := by decide +kernel
theorem d_225_207 : xcode 225 207 = some (.lmul, 1) := by decide +kernel
theorem d_225_208 : xcode 225 208 = some (.lsub, 1) := by decide +kernel
theorem d_225_209 : xcode 225 209 = some (.lastore, 1) := by decide +kernel
theorem d_225_210 : xcode 225 210 = some (.iinc 5 1, 3) := by decide +kernel
theorem d_225_213 : xcode 225 213 = some (.goto (-97), 3) := by decide +kernel
theorem d_225_216 : xcode 225 216 = some (.iinc 4 1, 3) := by decide +kernel
theorem d_225_219 : xcode 225 219 = some (.goto (-112), 3) := by decide +kernel
theorem d_225_222 : xcode 225 222 = some (.aload_n 0, 1) := by decide +kernel
theorem d_225_223 : xcode 225 223 = some (.aload_n 0, 1) := by decide +kernel
theorem d_225_224 : xcode 225 224 = some (.getfield 81, 3) := by decide +kernel
theorem d_225_227 : xcode 225 227 = some (.iconst 0, 1) := by decide +kernel
theorem d_225_228 : xcode 225 228 = some (.aload_n 0, 1) := by decide +kernel
theorem d_225_229 : xcode 225 229 = some (.getfield 30, 3) := by decide +kernel
theorem d_225_232 : xcode 225 232 = some (.iload_n 2, 1) := by decide +kernel
theorem d_225_233 : xcode 225 233 = some (.laload, 1) := by decide +kernel
theorem d_225_234 : xcode 225 234 = some (.aload_n 0, 1) := by decide +kernel
theorem d_225_235 : xcode 225 235 = some (.getfield 33, 3) := by decide +kernel
theorem d_225_238 : xcode 225 238 = some (.iload_n 2, 1) := by decide +kernel
theorem d_225_239 : xcode 225 239 = some (.laload, 1) := by decide +kernel
theorem d_225_240 : xcode 225 240 = some (.ldc2_w 168, 3) := by decide +kernel
theorem d_225_243 : xcode 225 243 = some (.invokevirtual 134, 3) := by decide +kernel
theorem d_225_246 : xcode 225 246 = some (.aload_n 0, 1) := by decide +kernel
theorem d_225_247 : xcode 225 247 = some (.getfield 81, 3) := by decide +kernel
theorem d_225_250 : xcode 225 250 = some (.iload_n 3, 1) := by decide +kernel
theorem d_225_251 : xcode 225 251 = some (.laload, 1) := by decide +kernel
theorem d_225_252 : xcode 225 252 = some (.lreturn, 1) := by decide +kernel
theorem d_226_0 : xcode 226 0 = some (.aload_n 0, 1) := by decide +kernel
theorem d_226_1 : xcode 226 1 = some (.iconst 0, 1) := by decide +kernel
theorem d_226_2 : xcode 226 2 = some (.putfield 118, 3) := by decide +kernel
theorem d_226_5 : xcode 226 5 = some (.iload_n 1, 1) := by decide +kernel
theorem d_226_6 : xcode 226 6 = some (.iconst 1, 1) := by decide +kernel
theorem d_226_7 : xcode 226 7 = some (.if_icmp .ge 5, 3) := by decide +kernel
theorem d_226_10 : xcode 226 10 = some (.iconst (-1), 1) := by decide +kernel
theorem d_226_11 : xcode 226 11 = some (.ireturn, 1) := by decide +kernel
theorem d_226_12 : xcode 226 12 = some (.iconst 2, 1) := by decide +kernel
theorem d_226_13 : xcode 226 13 = some (.istore_n 2, 1) := by decide +kernel
theorem d_226_14 : xcode 226 14 = some (.iload_n 2, 1) := by decide +kernel
theorem d_226_15 : xcode 226 15 = some (.bipush 38, 2) := by decide +kernel
theorem d_226_17 : xcode 226 17 = some (.if_icmp .gt 27, 3) := by decide +kernel
theorem d_226_20 : xcode 226 20 = some (.aload_n 0, 1) := by decide +kernel
theorem d_226_21 : xcode 226 21 = some (.getfield 7, 3) := by decide +kernel
theorem d_226_24 : xcode 226 24 = some (.iconst 3, 1) := by decide +kernel
theorem d_226_25 : xcode 226 25 = some (.iload_n 2, 1) := by decide +kernel
theorem d_226_26 : xcode 226 26 = some (.imul, 1) := by decide +kernel
theorem d_226_27 : xcode 226 27 = some (.iconst 2, 1) := by decide +kernel
theorem d_226_28 : xcode 226 28 = some (.iadd, 1) := by decide +kernel
theorem d_226_29 : xcode 226 29 = some (.laload, 1) := by decide +kernel
theorem d_226_30 : xcode 226 30 = some (.iload_n 1, 1) := by decide +kernel
theorem d_226_31 : xcode 226 31 = some (.i2l, 1) := by decide +kernel
theorem d_226_32 : xcode 226 32 = some (.lcmp, 1) := by decide +kernel
theorem d_226_33 : xcode 226 33 = some (.ifCond .ne 5, 3) := by decide +kernel
theorem d_226_36 : xcode 226 36 = some (.iload_n 2, 1) := by decide +kernel
theorem d_226_37 : xcode 226 37 = some (.ireturn, 1) := by decide +kernel
theorem d_226_38 : xcode 226 38 = some (.iinc 2 2, 3) := by decide +kernel
theorem d_226_41 : xcode 226 41 = some (.goto (-27), 3) := by decide +kernel
theorem d_226_44 : xcode 226 44 = some (.bipush (-2), 2) := by decide +kernel
theorem d_226_46 : xcode 226 46 = some (.ireturn, 1) := by decide +kernel
theorem d_227_0 : xcode 227 0 = some (.aload_n 0, 1) := by decide +kernel
theorem d_227_1 : xcode 227 1 = some (.iconst 0, 1) := by decide +kernel
theorem d_227_2 : xcode 227 2 = some (.putfield 118, 3) := by decide +kernel
theorem d_227_5 : xcode 227 5 = some (.aload_n 0, 1) := by decide +kernel
theorem d_227_6 : xcode 227 6 = some (.iload_n 1, 1) := by decide +kernel
theorem d_227_7 : xcode 227 7 = some (.invokevirtual 145, 3) := by decide +kernel
theorem d_227_10 : xcode 227 10 = some (.ifCond .eq 11, 3) := by decide +kernel
theorem d_227_13 : xcode 227 13 = some (.aload_n 0, 1) := by decide +kernel
theorem d_227_14 : xcode 227 14 = some (.iload_n 2, 1) := by decide +kernel
theorem d_227_15 : xcode 227 15 = some (.invokevirtual 185, 3) := by decide +kernel
theorem d_227_18 : xcode 227 18 = some (.ifCond .ne 5, 3) := by decide +kernel
theorem d_227_21 : xcode 227 21 = some (.iconst (-1), 1) := by decide +kernel
theorem d_227_22 : xcode 227 22 = some (.ireturn, 1) := by decide +kernel
theorem d_227_23 : xcode 227 23 = some (.iload_n 1, 1) := by decide +kernel
theorem d_227_24 : xcode 227 24 = some (.aload_n 0, 1) := by decide +kernel
theorem d_227_25 : xcode 227 25 = some (.getfield 20, 3) := by decide +kernel
theorem d_227_28 : xcode 227 28 = some (.if_icmp .le 6, 3) := by decide +kernel
theorem d_227_31 : xcode 227 31 = some (.bipush (-2), 2) := by decide +kernel
theorem d_227_33 : xcode 227 33 = some (.ireturn, 1) := by decide +kernel
theorem d_227_34 : xcode 227 34 = some (.aload_n 0, 1) := by decide +kernel
theorem d_227_35 : xcode 227 35 = some (.aload_n 0, 1) := by decide +kernel
theorem d_227_36 : xcode 227 36 = some (.getfield 13, 3) := by decide +kernel
theorem d_227_39 : xcode 227 39 = some (.iload_n 1, 1) := by decide +kernel
theorem d_227_40 : xcode 227 40 = some (.iload_n 2, 1) := by decide +kernel
theorem d_227_41 : xcode 227 41 = some (.invokevirtual 188, 3) := by decide +kernel
theorem d_227_44 : xcode 227 44 = some (.istore_n 3, 1) := by decide +kernel
theorem d_227_45 : xcode 227 45 = some (.iload_n 3, 1) := by decide +kernel
theorem d_227_46 : xcode 227 46 = some (.ifCond .lt 10, 3) := by decide +kernel
theorem d_227_49 : xcode 227 49 = some (.aload_n 0, 1) := by decide +kernel
theorem d_227_50 : xcode 227 50 = some (.iload_n 1, 1) := by decide +kernel
theorem d_227_51 : xcode 227 51 = some (.iload_n 2, 1) := by decide +kernel
theorem d_227_52 : xcode 227 52 = some (.iload_n 3, 1) := by decide +kernel
theorem d_227_53 : xcode 227 53 = some (.invokevirtual 192, 3) := by decide +kernel
theorem d_227_56 : xcode 227 56 = some (.iload_n 3, 1) := by decide +kernel
theorem d_227_57 : xcode 227 57 = some (.ireturn, 1) := by decide +kernel
theorem d_228_0 : xcode 228 0 = some (.iconst 1, 1) := by decide +kernel
theorem d_228_1 : xcode 228 1 = some (.istore_n 2, 1) := by decide +kernel
theorem d_228_2 : xcode 228 2 = some (.iload_n 2, 1) := by decide +kernel
theorem d_228_3 : xcode 228 3 = some (.aload_n 0, 1) := by decide +kernel
theorem d_228_4 : xcode 228 4 = some (.getfield 96, 3) := by decide +kernel
theorem d_228_7 : xcode 228 7 = some (.if_icmp .ge 21, 3) := by decide +kernel
theorem d_228_10 : xcode 228 10 = some (.aload_n 0, 1) := by decide +kernel
theorem d_228_11 : xcode 228 11 = some (.getfield 27, 3) := by decide +kernel
theorem d_228_14 : xcode 228 14 = some (.iload_n 2, 1) := by decide +kernel
theorem d_228_15 : xcode 228 15 = some (.iaload, 1) := by decide +kernel
theorem d_228_16 : xcode 228 16 = some (.iload_n 1, 1) := by decide +kernel
theorem d_228_17 : xcode 228 17 = some (.if_icmp .ne 5, 3) := by decide +kernel
theorem d_228_20 : xcode 228 20 = some (.iconst 1, 1) := by decide +kernel
theorem d_228_21 : xcode 228 21 = some (.ireturn, 1) := by decide +kernel
theorem d_228_22 : xcode 228 22 = some (.iinc 2 1, 3) := by decide +kernel
theorem d_228_25 : xcode 228 25 = some (.goto (-23), 3) := by decide +kernel
theorem d_228_28 : xcode 228 28 = some (.iconst 0, 1) := by decide +kernel
theorem d_228_29 : xcode 228 29 = some (.ireturn, 1) := by decide +kernel
theorem d_229_0 : xcode 229 0 = some (.aload_n 0, 1) := by decide +kernel
theorem d_229_1 : xcode 229 1 = some (.iload_n 1, 1) := by decide +kernel
theorem d_229_2 : xcode 229 2 = some (.iload_n 2, 1) := by decide +kernel
theorem d_229_3 : xcode 229 3 = some (.invokevirtual 181, 3) := by decide +kernel
theorem d_229_6 : xcode 229 6 = some (.istore 4, 2) := by decide +kernel
theorem d_229_8 : xcode 229 8 = some (.iload 4, 2) := by decide +kernel
theorem d_229_10 : xcode 229 10 = some (.ifCond .ge 66, 3) := by decide +kernel
theorem d_229_13 : xcode 229 13 = some (.aload_n 0, 1) := by decide +kernel
theorem d_229_14 : xcode 229 14 = some (.getfield 178, 3) := by decide +kernel
theorem d_229_17 : xcode 229 17 = some (.bipush 20, 2) := by decide +kernel
theorem d_229_19 : xcode 229 19 = some (.if_icmp .ne 41, 3) := by decide +kernel
theorem d_229_22 : xcode 229 22 = some (.iconst 3, 1) := by decide +kernel
theorem d_229_23 : xcode 229 23 = some (.istore 5, 2) := by decide +kernel
theorem d_229_25 : xcode 229 25 = some (.iload 5, 2) := by decide +kernel
theorem d_229_27 : xcode 229 27 = some (.bipush 60, 2) := by decide +kernel
theorem d_229_29 : xcode 229 29 = some (.if_icmp .ge 25, 3) := by decide +kernel
theorem d_229_32 : xcode 229 32 = some (.aload_n 0, 1) := by decide +kernel
theorem d_229_33 : xcode 229 33 = some (.getfield 36, 3) := by decide +kernel
theorem d_229_36 : xcode 229 36 = some (.iload 5, 2) := by decide +kernel
theorem d_229_38 : xcode 229 38 = some (.iconst 3, 1) := by decide +kernel
theorem d_229_39 : xcode 229 39 = some (.isub, 1) := by decide +kernel
theorem d_229_40 : xcode 229 40 = some (.aload_n 0, 1) := by decide +kernel
theorem d_229_41 : xcode 229 41 = some (.getfield 36, 3) := by decide +kernel
theorem d_229_44 : xcode 229 44 = some (.iload 5, 2) := by decide +kernel
theorem d_229_46 : xcode 229 46 = some (.iaload, 1) := by decide +kernel
theorem d_229_47 : xcode 229 47 = some (.iastore, 1) := by decide +kernel
theorem d_229_48 : xcode 229 48 = some (.iinc 5 1, 3) := by decide +kernel
theorem d_229_51 : xcode 229 51 = some (.goto (-26), 3) := by decide +kernel
theorem d_229_54 : xcode 229 54 = some (.aload_n 0, 1) := by decide +kernel
theorem d_229_55 : xcode 229 55 = some (.bipush 19, 2) := by decide +kernel
theorem d_229_57 : xcode 229 57 = some (.putfield 178, 3) := by decide +kernel
theorem d_229_60 : xcode 229 60 = some (.aload_n 0, 1) := by decide +kernel
theorem d_229_61 : xcode 229 61 = some (.getfield 178, 3) := by decide +kernel
theorem d_229_64 : xcode 229 64 = some (.istore 4, 2) := by decide +kernel
theorem d_229_66 : xcode 229 66 = some (.aload_n 0, 1) := by decide +kernel
theorem d_229_67 : xcode 229 67 = some (.dup, 1) := by decide +kernel
theorem d_229_68 : xcode 229 68 = some (.getfield 178, 3) := by decide +kernel
theorem d_229_71 : xcode 229 71 = some (.iconst 1, 1) := by decide +kernel
theorem d_229_72 : xcode 229 72 = some (.iadd, 1) := by decide +kernel
theorem d_229_73 : xcode 229 73 = some (.putfield 178, 3) := by decide +kernel
theorem d_229_76 : xcode 229 76 = some (.aload_n 0, 1) := by decide +kernel
theorem d_229_77 : xcode 229 77 = some (.getfield 36, 3) := by decide +kernel
theorem d_229_80 : xcode 229 80 = some (.iconst 3, 1) := by decide +kernel
theorem d_229_81 : xcode 229 81 = some (.iload 4, 2) := by decide +kernel
theorem d_229_83 : xcode 229 83 = some (.imul, 1) := by decide +kernel
theorem d_229_84 : xcode 229 84 = some (.iload_n 1, 1) := by decide +kernel
theorem d_229_85 : xcode 229 85 = some (.iastore, 1) := by decide +kernel
theorem d_229_86 : xcode 229 86 = some (.aload_n 0, 1) := by decide +kernel
theorem d_229_87 : xcode 229 87 = some (.getfield 36, 3) := by decide +kernel
theorem d_229_90 : xcode 229 90 = some (.iconst 3, 1) := by decide +kernel
theorem d_229_91 : xcode 229 91 = some (.iload 4, 2) := by decide +kernel
theorem d_229_93 : xcode 229 93 = some (.imul, 1) := by decide +kernel
theorem d_229_94 : xcode 229 94 = some (.iconst 1, 1) := by decide +kernel
theorem d_229_95 : xcode 229 95 = some (.iadd, 1) := by decide +kernel
theorem d_229_96 : xcode 229 96 = some (.iload_n 2, 1) := by decide +kernel
theorem d_229_97 : xcode 229 97 = some (.iastore, 1) := by decide +kernel
theorem d_229_98 : xcode 229 98 = some (.aload_n 0, 1) := by decide +kernel
theorem d_229_99 : xcode 229 99 = some (.getfield 36, 3) := by decide +kernel
theorem d_229_102 : xcode 229 102 = some (.iconst 3, 1) := by decide +kernel
theorem d_229_103 : xcode 229 103 = some (.iload 4, 2) := by decide +kernel
theorem d_229_105 : xcode 229 105 = some (.imul, 1) := by decide +kernel
theorem d_229_106 : xcode 229 106 = some (.iconst 2, 1) := by decide +kernel
theorem d_229_107 : xcode 229 107 = some (.iadd, 1) := by decide +kernel
theorem d_229_108 : xcode 229 108 = some (.iload_n 3, 1) := by decide +kernel
theorem d_229_109 : xcode 229 109 = some (.iastore, 1) := by decide +kernel
theorem d_229_110 : xcode 229 110 = some (.return_, 1) := by decide +kernel
theorem d_230_0 : xcode 230 0 = some (.iconst 0, 1) := by decide +kernel
theorem d_230_1 : xcode 230 1 = some (.istore_n 3, 1) := by decide +kernel
theorem d_230_2 : xcode 230 2 = some (.iload_n 3, 1) := by decide +kernel
theorem d_230_3 : xcode 230 3 = some (.aload_n 0, 1) := by decide +kernel
theorem d_230_4 : xcode 230 4 = some (.getfield 178, 3) := by decide +kernel
theorem d_230_7 : xcode 230 7 = some (.if_icmp .ge 37, 3) := by decide +kernel
theorem d_230_10 : xcode 230 10 = some (.aload_n 0, 1) := by decide +kernel
theorem d_230_11 : xcode 230 11 = some (.getfield 36, 3) := by decide +kernel
theorem d_230_14 : xcode 230 14 = some (.iconst 3, 1) := by decide +kernel
theorem d_230_15 : xcode 230 15 = some (.iload_n 3, 1) := by decide +kernel
theorem d_230_16 : xcode 230 16 = some (.imul, 1) := by decide +kernel
theorem d_230_17 : xcode 230 17 = some (.iaload, 1) := by decide +kernel
theorem d_230_18 : xcode 230 18 = some (.iload_n 1, 1) := by decide +kernel
theorem d_230_19 : xcode 230 19 = some (.if_icmp .ne 19, 3) := by decide +kernel
theorem d_230_22 : xcode 230 22 = some (.aload_n 0, 1) := by decide +kernel
theorem d_230_23 : xcode 230 23 = some (.getfield 36, 3) := by decide +kernel
theorem d_230_26 : xcode 230 26 = some (.iconst 3, 1) := by decide +kernel
theorem d_230_27 : xcode 230 27 = some (.iload_n 3, 1) := by decide +kernel
theorem d_230_28 : xcode 230 28 = some (.imul, 1) := by decide +kernel
theorem d_230_29 : xcode 230 29 = some (.iconst 1, 1) := by decide +kernel
theorem d_230_30 : xcode 230 30 = some (.iadd, 1) := by decide +kernel
theorem d_230_31 : xcode 230 31 = some (.iaload, 1) := by decide +kernel
theorem d_230_32 : xcode 230 32 = some (.iload_n 2, 1) := by decide +kernel
theorem d_230_33 : xcode 230 33 = some (.if_icmp .ne 5, 3) := by decide +kernel
theorem d_230_36 : xcode 230 36 = some (.iload_n 3, 1) := by decide +kernel
theorem d_230_37 : xcode 230 37 = some (.ireturn, 1) := by decide +kernel
theorem d_230_38 : xcode 230 38 = some (.iinc 3 1, 3) := by decide +kernel
theorem d_230_41 : xcode 230 41 = some (.goto (-39), 3) := by decide +kernel
theorem d_230_44 : xcode 230 44 = some (.iconst (-1), 1) := by decide +kernel
theorem d_230_45 : xcode 230 45 = some (.ireturn, 1) := by decide +kernel
theorem d_231_0 : xcode 231 0 = some (.aload_n 0, 1) := by decide +kernel
theorem d_231_1 : xcode 231 1 = some (.iconst 0, 1) := by decide +kernel
theorem d_231_2 : xcode 231 2 = some (.putfield 118, 3) := by decide +kernel
theorem d_231_5 : xcode 231 5 = some (.aload_n 0, 1) := by decide +kernel
theorem d_231_6 : xcode 231 6 = some (.iload_n 1, 1) := by decide +kernel
theorem d_231_7 : xcode 231 7 = some (.invokevirtual 145, 3) := by decide +kernel
theorem d_231_10 : xcode 231 10 = some (.ifCond .eq 11, 3) := by decide +kernel
theorem d_231_13 : xcode 231 13 = some (.aload_n 0, 1) := by decide +kernel
theorem d_231_14 : xcode 231 14 = some (.iload_n 2, 1) := by decide +kernel
theorem d_231_15 : xcode 231 15 = some (.invokevirtual 185, 3) := by decide +kernel
theorem d_231_18 : xcode 231 18 = some (.ifCond .ne 5, 3) := by decide +kernel
theorem d_231_21 : xcode 231 21 = some (.iconst (-1), 1) := by decide +kernel
theorem d_231_22 : xcode 231 22 = some (.ireturn, 1) := by decide +kernel
theorem d_231_23 : xcode 231 23 = some (.iload_n 1, 1) := by decide +kernel
theorem d_231_24 : xcode 231 24 = some (.iconst 2, 1) := by decide +kernel
theorem d_231_25 : xcode 231 25 = some (.if_icmp .lt 18, 3) := by decide +kernel
theorem d_231_28 : xcode 231 28 = some (.iload_n 1, 1) := by decide +kernel
theorem d_231_29 : xcode 231 29 = some (.iconst 2, 1) := by decide +kernel
theorem d_231_30 : xcode 231 30 = some (.irem, 1) := by decide +kernel
theorem d_231_31 : xcode 231 31 = some (.iconst 1, 1) := by decide +kernel
theorem d_231_32 : xcode 231 32 = some (.if_icmp .eq 11, 3) := by decide +kernel
theorem d_231_35 : xcode 231 35 = some (.iload_n 1, 1) := by decide +kernel
theorem d_231_36 : xcode 231 36 = some (.iload_n 2, 1) := by decide +kernel
theorem d_231_37 : xcode 231 37 = some (.iconst 1, 1) := by decide +kernel
theorem d_231_38 : xcode 231 38 = some (.isub, 1) := by decide +kernel
theorem d_231_39 : xcode 231 39 = some (.irem, 1) := by decide +kernel
theorem d_231_40 : xcode 231 40 = some (.ifCond .ne 6, 3) := by decide +kernel
theorem d_231_43 : xcode 231 43 = some (.bipush (-3), 2) := by decide +kernel
theorem d_231_45 : xcode 231 45 = some (.ireturn, 1) := by decide +kernel
theorem d_231_46 : xcode 231 46 = some (.iconst 0, 1) := by decide +kernel
theorem d_231_47 : xcode 231 47 = some (.istore_n 3, 1) := by decide +kernel
theorem d_231_48 : xcode 231 48 = some (.iconst 1, 1) := by decide +kernel
theorem d_231_49 : xcode 231 49 = some (.istore 4, 2) := by decide +kernel
theorem d_231_51 : xcode 231 51 = some (.iload 4, 2) := by decide +kernel
theorem d_231_53 : xcode 231 53 = some (.iload_n 2, 1) := by decide +kernel
theorem d_231_54 : xcode 231 54 = some (.if_icmp .ge 25, 3) := by decide +kernel
theorem d_231_57 : xcode 231 57 = some (.iload_n 3, 1) := by decide +kernel
theorem d_231_58 : xcode 231 58 = some (.iload 4, 2) := by decide +kernel
theorem d_231_60 : xcode 231 60 = some (.iload_n 1, 1) := by decide +kernel
theorem d_231_61 : xcode 231 61 = some (.iload_n 2, 1) := by decide +kernel
theorem d_231_62 : xcode 231 62 = some (.iload_n 2, 1) := by decide +kernel
theorem d_231_63 : xcode 231 63 = some (.imul, 1) := by decide +kernel
theorem d_231_64 : xcode 231 64 = some (.invokestatic 174, 3) := by decide +kernel
theorem d_231_67 : xcode 231 67 = some (.iadd, 1) := by decide +kernel
theorem d_231_68 : xcode 231 68 = some (.iload_n 2, 1) := by decide +kernel
theorem d_231_69 : xcode 231 69 = some (.iload_n 2, 1) := by decide +kernel
theorem d_231_70 : xcode 231 70 = some (.imul, 1) := by decide +kernel
theorem d_231_71 : xcode 231 71 = some (.irem, 1) := by decide +kernel
theorem d_231_72 : xcode 231 72 = some (.istore_n 3, 1) := by decide +kernel
theorem d_231_73 : xcode 231 73 = some (.iinc 4 1, 3) := by decide +kernel
theorem d_231_76 : xcode 231 76 = some (.goto (-25), 3) := by decide +kernel
theorem d_231_79 : xcode 231 79 = some (.iload_n 3, 1) := by decide +kernel
theorem d_231_80 : xcode 231 80 = some (.iload_n 2, 1) := by decide +kernel
theorem d_231_81 : xcode 231 81 = some (.idiv, 1) := by decide +kernel
theorem d_231_82 : xcode 231 82 = some (.ireturn, 1) := by decide +kernel
theorem d_232_0 : xcode 232 0 = some (.aload_n 0, 1) := by decide +kernel
theorem d_232_1 : xcode 232 1 = some (.iconst 0, 1) := by decide +kernel
theorem d_232_2 : xcode 232 2 = some (.putfield 118, 3) := by decide +kernel
theorem d_232_5 : xcode 232 5 = some (.iload_n 1, 1) := by decide +kernel
theorem d_232_6 : xcode 232 6 = some (.ifCond .lt 12, 3) := by decide +kernel
theorem d_232_9 : xcode 232 9 = some (.iload_n 2, 1) := by decide +kernel
theorem d_232_10 : xcode 232 10 = some (.iconst 0, 1) := by decide +kernel
theorem d_232_11 : xcode 232 11 = some (.iconst 3, 1) := by decide +kernel
theorem d_232_12 : xcode 232 12 = some (.invokestatic 137, 3) := by decide +kernel
theorem d_232_15 : xcode 232 15 = some (.ifCond .ne 5, 3) := by decide +kernel
theorem d_232_18 : xcode 232 18 = some (.iconst (-1), 1) := by decide +kernel
theorem d_232_19 : xcode 232 19 = some (.ireturn, 1) := by decide +kernel
theorem d_232_20 : xcode 232 20 = some (.iload_n 1, 1) := by decide +kernel
theorem d_232_21 : xcode 232 21 = some (.aload_n 0, 1) := by decide +kernel
theorem d_232_22 : xcode 232 22 = some (.getfield 178, 3) := by decide +kernel
theorem d_232_25 : xcode 232 25 = some (.if_icmp .lt 6, 3) := by decide +kernel
theorem d_232_28 : xcode 232 28 = some (.bipush (-2), 2) := by decide +kernel
theorem d_232_30 : xcode 232 30 = some (.ireturn, 1) := by decide +kernel
theorem d_232_31 : xcode 232 31 = some (.iload_n 2, 1) := by decide +kernel
theorem d_232_32 : xcode 232 32 = some (.iconst 3, 1) := by decide +kernel
theorem d_232_33 : xcode 232 33 = some (.if_icmp .ge 16, 3) := by decide +kernel
theorem d_232_36 : xcode 232 36 = some (.aload_n 0, 1) := by decide +kernel
theorem d_232_37 : xcode 232 37 = some (.getfield 36, 3) := by decide +kernel
theorem d_232_40 : xcode 232 40 = some (.iconst 3, 1) := by decide +kernel
theorem d_232_41 : xcode 232 41 = some (.iload_n 1, 1) := by decide +kernel
theorem d_232_42 : xcode 232 42 = some (.imul, 1) := by decide +kernel
theorem d_232_43 : xcode 232 43 = some (.iload_n 2, 1) := by decide +kernel
theorem d_232_44 : xcode 232 44 = some (.iadd, 1) := by decide +kernel
theorem d_232_45 : xcode 232 45 = some (.iaload, 1) := by decide +kernel
theorem d_232_46 : xcode 232 46 = some (.goto 16, 3) := by decide +kernel
theorem d_232_49 : xcode 232 49 = some (.aload_n 0, 1) := by decide +kernel
theorem d_232_50 : xcode 232 50 = some (.iload_n 1, 1) := by decide +kernel
theorem d_232_51 : xcode 232 51 = some (.invokevirtual 196, 3) := by decide +kernel
theorem d_232_54 : xcode 232 54 = some (.ifCond .eq 7, 3) := by decide +kernel
theorem d_232_57 : xcode 232 57 = some (.iconst 1, 1) := by decide +kernel
theorem d_232_58 : xcode 232 58 = some (.goto 4, 3) := by decide +kernel
theorem d_232_61 : xcode 232 61 = some (.iconst 0, 1) := by decide +kernel
theorem d_232_62 : xcode 232 62 = some (.ireturn, 1) := by decide +kernel
theorem d_233_0 : xcode 233 0 = some (.aload_n 0, 1) := by decide +kernel
theorem d_233_1 : xcode 233 1 = some (.aload_n 0, 1) := by decide +kernel
theorem d_233_2 : xcode 233 2 = some (.getfield 13, 3) := by decide +kernel
theorem d_233_5 : xcode 233 5 = some (.aload_n 0, 1) := by decide +kernel
theorem d_233_6 : xcode 233 6 = some (.getfield 36, 3) := by decide +kernel
theorem d_233_9 : xcode 233 9 = some (.iconst 3, 1) := by decide +kernel
theorem d_233_10 : xcode 233 10 = some (.iload_n 1, 1) := by decide +kernel
theorem d_233_11 : xcode 233 11 = some (.imul, 1) := by decide +kernel
theorem d_233_12 : xcode 233 12 = some (.iaload, 1) := by decide +kernel
theorem d_233_13 : xcode 233 13 = some (.aload_n 0, 1) := by decide +kernel
theorem d_233_14 : xcode 233 14 = some (.getfield 36, 3) := by decide +kernel
theorem d_233_17 : xcode 233 17 = some (.iconst 3, 1) := by decide +kernel
theorem d_233_18 : xcode 233 18 = some (.iload_n 1, 1) := by decide +kernel
theorem d_233_19 : xcode 233 19 = some (.imul, 1) := by decide +kernel
theorem d_233_20 : xcode 233 20 = some (.iconst 1, 1) := by decide +kernel
theorem d_233_21 : xcode 233 21 = some (.iadd, 1) := by decide +kernel
theorem d_233_22 : xcode 233 22 = some (.iaload, 1) := by decide +kernel
theorem d_233_23 : xcode 233 23 = some (.invokevirtual 188, 3) := by decide +kernel
theorem d_233_26 : xcode 233 26 = some (.aload_n 0, 1) := by decide +kernel
theorem d_233_27 : xcode 233 27 = some (.getfield 36, 3) := by decide +kernel
theorem d_233_30 : xcode 233 30 = some (.iconst 3, 1) := by decide +kernel
theorem d_233_31 : xcode 233 31 = some (.iload_n 1, 1) := by decide +kernel
theorem d_233_32 : xcode 233 32 = some (.imul, 1) := by decide +kernel
theorem d_233_33 : xcode 233 33 = some (.iconst 2, 1) := by decide +kernel
theorem d_233_34 : xcode 233 34 = some (.iadd, 1) := by decide +kernel
theorem d_233_35 : xcode 233 35 = some (.iaload, 1) := by decide +kernel
theorem d_233_36 : xcode 233 36 = some (.if_icmp .ne 7, 3) := by decide +kernel
theorem d_233_39 : xcode 233 39 = some (.iconst 1, 1) := by decide +kernel
theorem d_233_40 : xcode 233 40 = some (.goto 4, 3) := by decide +kernel
theorem d_233_43 : xcode 233 43 = some (.iconst 0, 1) := by decide +kernel
theorem d_233_44 : xcode 233 44 = some (.ireturn, 1) := by decide +kernel
theorem d_234_0 : xcode 234 0 = some (.aload_n 0, 1) := by decide +kernel
theorem d_234_1 : xcode 234 1 = some (.iconst 0, 1) := by decide +kernel
theorem d_234_2 : xcode 234 2 = some (.putfield 118, 3) := by decide +kernel
theorem d_234_5 : xcode 234 5 = some (.aload_n 0, 1) := by decide +kernel
theorem d_234_6 : xcode 234 6 = some (.iload_n 1, 1) := by decide +kernel
theorem d_234_7 : xcode 234 7 = some (.invokevirtual 145, 3) := by decide +kernel
theorem d_234_10 : xcode 234 10 = some (.ifCond .eq 19, 3) := by decide +kernel
theorem d_234_13 : xcode 234 13 = some (.aload_n 0, 1) := by decide +kernel
theorem d_234_14 : xcode 234 14 = some (.iload_n 2, 1) := by decide +kernel
theorem d_234_15 : xcode 234 15 = some (.invokevirtual 185, 3) := by decide +kernel
theorem d_234_18 : xcode 234 18 = some (.ifCond .eq 11, 3) := by decide +kernel
theorem d_234_21 : xcode 234 21 = some (.iload_n 1, 1) := by decide +kernel
theorem d_234_22 : xcode 234 22 = some (.aload_n 0, 1) := by decide +kernel
theorem d_234_23 : xcode 234 23 = some (.getfield 20, 3) := by decide +kernel
theorem d_234_26 : xcode 234 26 = some (.if_icmp .le 6, 3) := by decide +kernel
theorem d_234_29 : xcode 234 29 = some (.bipush (-100), 2) := by decide +kernel
theorem d_234_31 : xcode 234 31 = some (.ireturn, 1) := by decide +kernel
theorem d_234_32 : xcode 234 32 = some (.aload_n 0, 1) := by decide +kernel
theorem d_234_33 : xcode 234 33 = some (.getfield 13, 3) := by decide +kernel
theorem d_234_36 : xcode 234 36 = some (.iconst 3, 1) := by decide +kernel
theorem d_234_37 : xcode 234 37 = some (.iload_n 1, 1) := by decide +kernel
theorem d_234_38 : xcode 234 38 = some (.imul, 1) := by decide +kernel
theorem d_234_39 : xcode 234 39 = some (.iconst 2, 1) := by decide +kernel
theorem d_234_40 : xcode 234 40 = some (.iadd, 1) := by decide +kernel
theorem d_234_41 : xcode 234 41 = some (.laload, 1) := by decide +kernel
theorem d_234_42 : xcode 234 42 = some (.iload_n 2, 1) := by decide +kernel
theorem d_234_43 : xcode 234 43 = some (.invokestatic 199, 3) := by decide +kernel
theorem d_234_46 : xcode 234 46 = some (.istore_n 3, 1) := by decide +kernel
theorem d_234_47 : xcode 234 47 = some (.aload_n 0, 1) := by decide +kernel
theorem d_234_48 : xcode 234 48 = some (.iload_n 1, 1) := by decide +kernel
theorem d_234_49 : xcode 234 49 = some (.iload_n 2, 1) := by decide +kernel
theorem d_234_50 : xcode 234 50 = some (.invokevirtual 202, 3) := by decide +kernel
theorem d_234_53 : xcode 234 53 = some (.istore 4, 2) := by decide +kernel
theorem d_234_55 : xcode 234 55 = some (.iload 4, 2) := by decide +kernel
theorem d_234_57 : xcode 234 57 = some (.bipush 100, 2) := by decide +kernel
theorem d_234_59 : xcode 234 59 = some (.if_icmp .ne 8, 3) := by decide +kernel
theorem d_234_62 : xcode 234 62 = some (.bipush 100, 2) := by decide +kernel
theorem d_234_64 : xcode 234 64 = some (.goto 7, 3) := by decide +kernel
theorem d_234_67 : xcode 234 67 = some (.iload 4, 2) := by decide +kernel
theorem d_234_69 : xcode 234 69 = some (.iload_n 3, 1) := by decide +kernel
theorem d_234_70 : xcode 234 70 = some (.isub, 1) := by decide +kernel
theorem d_234_71 : xcode 234 71 = some (.ireturn, 1) := by decide +kernel
theorem d_235_0 : xcode 235 0 = some (.iconst 0, 1) := by decide +kernel
theorem d_235_1 : xcode 235 1 = some (.istore_n 3, 1) := by decide +kernel
theorem d_235_2 : xcode 235 2 = some (.lload_n 0, 1) := by decide +kernel
theorem d_235_3 : xcode 235 3 = some (.lstore 4, 2) := by decide +kernel
theorem d_235_5 : xcode 235 5 = some (.lload 4, 2) := by decide +kernel
theorem d_235_7 : xcode 235 7 = some (.iload_n 2, 1) := by decide +kernel
theorem d_235_8 : xcode 235 8 = some (.i2l, 1) := by decide +kernel
theorem d_235_9 : xcode 235 9 = some (.lrem, 1) := by decide +kernel
theorem d_235_10 : xcode 235 10 = some (.lconst 0, 1) := by decide +kernel
theorem d_235_11 : xcode 235 11 = some (.lcmp, 1) := by decide +kernel
theorem d_235_12 : xcode 235 12 = some (.ifCond .ne 16, 3) := by decide +kernel
theorem d_235_15 : xcode 235 15 = some (.iinc 3 1, 3) := by decide +kernel
theorem d_235_18 : xcode 235 18 = some (.lload 4, 2) := by decide +kernel
theorem d_235_20 : xcode 235 20 = some (.iload_n 2, 1) := by decide +kernel
theorem d_235_21 : xcode 235 21 = some (.i2l, 1) := by decide +kernel
theorem d_235_22 : xcode 235 22 = some (.ldiv, 1) := by decide +kernel
theorem d_235_23 : xcode 235 23 = some (.lstore 4, 2) := by decide +kernel
theorem d_235_25 : xcode 235 25 = some (.goto (-20), 3) := by decide +kernel
theorem d_235_28 : xcode 235 28 = some (.iload_n 3, 1) := by decide +kernel
theorem d_235_29 : xcode 235 29 = some (.ireturn, 1) := by decide +kernel
theorem d_236_0 : xcode 236 0 = some (.aload_n 0, 1) := by decide +kernel
theorem d_236_1 : xcode 236 1 = some (.getfield 13, 3) := by decide +kernel
theorem d_236_4 : xcode 236 4 = some (.iconst 3, 1) := by decide +kernel
theorem d_236_5 : xcode 236 5 = some (.iload_n 1, 1) := by decide +kernel
theorem d_236_6 : xcode 236 6 = some (.imul, 1) := by decide +kernel
theorem d_236_7 : xcode 236 7 = some (.laload, 1) := by decide +kernel
theorem d_236_8 : xcode 236 8 = some (.lstore_n 3, 1) := by decide +kernel
theorem d_236_9 : xcode 236 9 = some (.aload_n 0, 1) := by decide +kernel
theorem d_236_10 : xcode 236 10 = some (.getfield 13, 3) := by decide +kernel
theorem d_236_13 : xcode 236 13 = some (.iconst 3, 1) := by decide +kernel
theorem d_236_14 : xcode 236 14 = some (.iload_n 1, 1) := by decide +kernel
theorem d_236_15 : xcode 236 15 = some (.imul, 1) := by decide +kernel
theorem d_236_16 : xcode 236 16 = some (.iconst 2, 1) := by decide +kernel
theorem d_236_17 : xcode 236 17 = some (.iadd, 1) := by decide +kernel
theorem d_236_18 : xcode 236 18 = some (.laload, 1) := by decide +kernel
theorem d_236_19 : xcode 236 19 = some (.lstore 5, 2) := by decide +kernel
theorem d_236_21 : xcode 236 21 = some (.aload_n 0, 1) := by decide +kernel
theorem d_236_22 : xcode 236 22 = some (.getfield 13, 3) := by decide +kernel
theorem d_236_25 : xcode 236 25 = some (.iconst 3, 1) := by decide +kernel
theorem d_236_26 : xcode 236 26 = some (.iload_n 1, 1) := by decide +kernel
theorem d_236_27 : xcode 236 27 = some (.imul, 1) := by decide +kernel
theorem d_236_28 : xcode 236 28 = some (.iconst 1, 1) := by decide +kernel
theorem d_236_29 : xcode 236 29 = some (.iadd, 1) := by decide +kernel
theorem d_236_30 : xcode 236 30 = some (.laload, 1) := by decide +kernel
theorem d_236_31 : xcode 236 31 = some (.lstore 7, 2) := by decide +kernel
theorem d_236_33 : xcode 236 33 = some (.lload_n 3, 1) := by decide +kernel
theorem d_236_34 : xcode 236 34 = some (.lconst 0, 1) := by decide +kernel
theorem d_236_35 : xcode 236 35 = some (.lcmp, 1) := by decide +kernel
theorem d_236_36 : xcode 236 36 = some (.ifCond .ne 13, 3) := by decide +kernel
theorem d_236_39 : xcode 236 39 = some (.lload 7, 2) := by decide +kernel
theorem d_236_41 : xcode 236 41 = some (.lconst 0, 1) := by decide +kernel
theorem d_236_42 : xcode 236 42 = some (.lcmp, 1) := by decide +kernel
theorem d_236_43 : xcode 236 43 = some (.ifCond .ne 6, 3) := by decide +kernel
theorem d_236_46 : xcode 236 46 = some (.bipush 100, 2) := by decide +kernel
theorem d_236_48 : xcode 236 48 = some (.ireturn, 1) := by decide +kernel
theorem d_236_49 : xcode 236 49 = some (.iconst 0, 1) := by decide +kernel
theorem d_236_50 : xcode 236 50 = some (.istore 9, 2) := by decide +kernel
theorem d_236_52 : xcode 236 52 = some (.lload_n 3, 1) := by decide +kernel
theorem d_236_53 : xcode 236 53 = some (.iload_n 2, 1) := by decide +kernel
theorem d_236_54 : xcode 236 54 = some (.i2l, 1) := by decide +kernel
theorem d_236_55 : xcode 236 55 = some (.ldiv, 1) := by decide +kernel
theorem d_236_56 : xcode 236 56 = some (.lstore 10, 2) := by decide +kernel
theorem d_236_58 : xcode 236 58 = some (.lload_n 3, 1) := by decide +kernel
theorem d_236_59 : xcode 236 59 = some (.lload 10, 2) := by decide +kernel
theorem d_236_61 : xcode 236 61 = some (.iload_n 2, 1) := by decide +kernel
theorem d_236_62 : xcode 236 62 = some (.i2l, 1) := by decide +kernel
theorem d_236_63 : xcode 236 63 = some (.lmul, 1) := by decide +kernel
theorem d_236_64 : xcode 236 64 = some (.lsub, 1) := by decide +kernel
theorem d_236_65 : xcode 236 65 = some (.lstore 12, 2) := by decide +kernel
theorem d_236_67 : xcode 236 67 = some (.lload 12, 2) := by decide +kernel
theorem d_236_69 : xcode 236 69 = some (.lload 5, 2) := by decide +kernel
theorem d_236_71 : xcode 236 71 = some (.lmul, 1) := by decide +kernel
theorem d_236_72 : xcode 236 72 = some (.lload 7, 2) := by decide +kernel
theorem d_236_74 : xcode 236 74 = some (.ladd, 1) := by decide +kernel
theorem d_236_75 : xcode 236 75 = some (.lstore 14, 2) := by decide +kernel
theorem d_236_77 : xcode 236 77 = some (.lload 14, 2) := by decide +kernel
theorem d_236_79 : xcode 236 79 = some (.iload_n 2, 1) := by decide +kernel
theorem d_236_80 : xcode 236 80 = some (.i2l, 1) := by decide +kernel
theorem d_236_81 : xcode 236 81 = some (.lrem, 1) := by decide +kernel
theorem d_236_82 : xcode 236 82 = some (.lconst 0, 1) := by decide +kernel
theorem d_236_83 : xcode 236 83 = some (.lcmp, 1) := by decide +kernel
theorem d_236_84 : xcode 236 84 = some (.ifCond .eq 6, 3) := by decide +kernel
theorem d_236_87 : xcode 236 87 = some (.iload 9, 2) := by decide +kernel
theorem d_236_89 : xcode 236 89 = some (.ireturn, 1) := by decide +kernel
theorem d_236_90 : xcode 236 90 = some (.lload 10, 2) := by decide +kernel
theorem d_236_92 : xcode 236 92 = some (.lstore_n 3, 1) := by decide +kernel
theorem d_236_93 : xcode 236 93 = some (.lload 14, 2) := by decide +kernel
theorem d_236_95 : xcode 236 95 = some (.iload_n 2, 1) := by decide +kernel
theorem d_236_96 : xcode 236 96 = some (.i2l, 1) := by decide +kernel
theorem d_236_97 : xcode 236 97 = some (.ldiv, 1) := by decide +kernel
theorem d_236_98 : xcode 236 98 = some (.lstore 7, 2) := by decide +kernel
theorem d_236_100 : xcode 236 100 = some (.iinc 9 1, 3) := by decide +kernel
theorem d_236_103 : xcode 236 103 = some (.goto (-51), 3) := by decide +kernel
theorem d_237_0 : xcode 237 0 = some (.aload_n 0, 1) := by decide +kernel
theorem d_237_1 : xcode 237 1 = some (.iconst 0, 1) := by decide +kernel
theorem d_237_2 : xcode 237 2 = some (.putfield 118, 3) := by decide +kernel
theorem d_237_5 : xcode 237 5 = some (.aload_n 0, 1) := by decide +kernel
theorem d_237_6 : xcode 237 6 = some (.iload_n 1, 1) := by decide +kernel
theorem d_237_7 : xcode 237 7 = some (.invokevirtual 185, 3) := by decide +kernel
theorem d_237_10 : xcode 237 10 = some (.ifCond .eq 19, 3) := by decide +kernel
theorem d_237_13 : xcode 237 13 = some (.aload_n 0, 1) := by decide +kernel
theorem d_237_14 : xcode 237 14 = some (.iload_n 2, 1) := by decide +kernel
theorem d_237_15 : xcode 237 15 = some (.invokevirtual 145, 3) := by decide +kernel
theorem d_237_18 : xcode 237 18 = some (.ifCond .eq 11, 3) := by decide +kernel
theorem d_237_21 : xcode 237 21 = some (.aload_n 0, 1) := by decide +kernel
theorem d_237_22 : xcode 237 22 = some (.iload_n 3, 1) := by decide +kernel
theorem d_237_23 : xcode 237 23 = some (.invokevirtual 145, 3) := by decide +kernel
theorem d_237_26 : xcode 237 26 = some (.ifCond .ne 5, 3) := by decide +kernel
theorem d_237_29 : xcode 237 29 = some (.iconst (-1), 1) := by decide +kernel
theorem d_237_30 : xcode 237 30 = some (.ireturn, 1) := by decide +kernel
theorem d_237_31 : xcode 237 31 = some (.iload_n 2, 1) := by decide +kernel
theorem d_237_32 : xcode 237 32 = some (.aload_n 0, 1) := by decide +kernel
theorem d_237_33 : xcode 237 33 = some (.getfield 20, 3) := by decide +kernel
theorem d_237_36 : xcode 237 36 = some (.if_icmp .gt 11, 3) := by decide +kernel
theorem d_237_39 : xcode 237 39 = some (.iload_n 3, 1) := by decide +kernel
theorem d_237_40 : xcode 237 40 = some (.aload_n 0, 1) := by decide +kernel
theorem d_237_41 : xcode 237 41 = some (.getfield 20, 3) := by decide +kernel
theorem d_237_44 : xcode 237 44 = some (.if_icmp .le 8, 3) := by decide +kernel
theorem d_237_47 : xcode 237 47 = some (.bipush (-2), 2) := by decide +kernel
theorem d_237_49 : xcode 237 49 = some (.goto 10, 3) := by decide +kernel
theorem d_237_52 : xcode 237 52 = some (.aload_n 0, 1) := by decide +kernel
theorem d_237_53 : xcode 237 53 = some (.iload_n 1, 1) := by decide +kernel
theorem d_237_54 : xcode 237 54 = some (.iload_n 2, 1) := by decide +kernel
theorem d_237_55 : xcode 237 55 = some (.iload_n 3, 1) := by decide +kernel
theorem d_237_56 : xcode 237 56 = some (.invokevirtual 205, 3) := by decide +kernel
theorem d_237_59 : xcode 237 59 = some (.ireturn, 1) := by decide +kernel
theorem d_238_0 : xcode 238 0 = some (.aload_n 0, 1) := by decide +kernel
theorem d_238_1 : xcode 238 1 = some (.iconst 0, 1) := by decide +kernel
theorem d_238_2 : xcode 238 2 = some (.putfield 118, 3) := by decide +kernel
theorem d_238_5 : xcode 238 5 = some (.aload_n 0, 1) := by decide +kernel
theorem d_238_6 : xcode 238 6 = some (.iload_n 1, 1) := by decide +kernel
theorem d_238_7 : xcode 238 7 = some (.invokevirtual 185, 3) := by decide +kernel
theorem d_238_10 : xcode 238 10 = some (.ifCond .eq 19, 3) := by decide +kernel
theorem d_238_13 : xcode 238 13 = some (.aload_n 0, 1) := by decide +kernel
theorem d_238_14 : xcode 238 14 = some (.iload_n 2, 1) := by decide +kernel
theorem d_238_15 : xcode 238 15 = some (.invokevirtual 145, 3) := by decide +kernel
theorem d_238_18 : xcode 238 18 = some (.ifCond .eq 11, 3) := by decide +kernel
theorem d_238_21 : xcode 238 21 = some (.aload_n 0, 1) := by decide +kernel
theorem d_238_22 : xcode 238 22 = some (.iload_n 3, 1) := by decide +kernel
theorem d_238_23 : xcode 238 23 = some (.invokevirtual 145, 3) := by decide +kernel
theorem d_238_26 : xcode 238 26 = some (.ifCond .ne 5, 3) := by decide +kernel
theorem d_238_29 : xcode 238 29 = some (.iconst (-1), 1) := by decide +kernel
theorem d_238_30 : xcode 238 30 = some (.ireturn, 1) := by decide +kernel
theorem d_238_31 : xcode 238 31 = some (.iload_n 2, 1) := by decide +kernel
theorem d_238_32 : xcode 238 32 = some (.aload_n 0, 1) := by decide +kernel
theorem d_238_33 : xcode 238 33 = some (.getfield 20, 3) := by decide +kernel
theorem d_238_36 : xcode 238 36 = some (.if_icmp .gt 11, 3) := by decide +kernel
theorem d_238_39 : xcode 238 39 = some (.iload_n 3, 1) := by decide +kernel
theorem d_238_40 : xcode 238 40 = some (.aload_n 0, 1) := by decide +kernel
theorem d_238_41 : xcode 238 41 = some (.getfield 20, 3) := by decide +kernel
theorem d_238_44 : xcode 238 44 = some (.if_icmp .le 6, 3) := by decide +kernel
theorem d_238_47 : xcode 238 47 = some (.bipush (-2), 2) := by decide +kernel
theorem d_238_49 : xcode 238 49 = some (.ireturn, 1) := by decide +kernel
theorem d_238_50 : xcode 238 50 = some (.iload_n 2, 1) := by decide +kernel
theorem d_238_51 : xcode 238 51 = some (.iload_n 3, 1) := by decide +kernel
theorem d_238_52 : xcode 238 52 = some (.isub, 1) := by decide +kernel
theorem d_238_53 : xcode 238 53 = some (.iload_n 1, 1) := by decide +kernel
theorem d_238_54 : xcode 238 54 = some (.iload_n 1, 1) := by decide +kernel
theorem d_238_55 : xcode 238 55 = some (.iconst 1, 1) := by decide +kernel
theorem d_238_56 : xcode 238 56 = some (.isub, 1) := by decide +kernel
theorem d_238_57 : xcode 238 57 = some (.imul, 1) := by decide +kernel
theorem d_238_58 : xcode 238 58 = some (.irem, 1) := by decide +kernel
theorem d_238_59 : xcode 238 59 = some (.ifCond .ne 13, 3) := by decide +kernel
theorem d_238_62 : xcode 238 62 = some (.aload_n 0, 1) := by decide +kernel
theorem d_238_63 : xcode 238 63 = some (.iload_n 1, 1) := by decide +kernel
theorem d_238_64 : xcode 238 64 = some (.iload_n 2, 1) := by decide +kernel
theorem d_238_65 : xcode 238 65 = some (.iload_n 3, 1) := by decide +kernel
theorem d_238_66 : xcode 238 66 = some (.invokevirtual 205, 3) := by decide +kernel
theorem d_238_69 : xcode 238 69 = some (.ifCond .ge 6, 3) := by decide +kernel
theorem d_238_72 : xcode 238 72 = some (.bipush (-3), 2) := by decide +kernel
theorem d_238_74 : xcode 238 74 = some (.ireturn, 1) := by decide +kernel
theorem d_238_75 : xcode 238 75 = some (.iload_n 1, 1) := by decide +kernel
theorem d_238_76 : xcode 238 76 = some (.i2l, 1) := by decide +kernel
theorem d_238_77 : xcode 238 77 = some (.iload_n 1, 1) := by decide +kernel
theorem d_238_78 : xcode 238 78 = some (.i2l, 1) := by decide +kernel
theorem d_238_79 : xcode 238 79 = some (.lmul, 1) := by decide +kernel
theorem d_238_80 : xcode 238 80 = some (.lstore 4, 2) := by decide +kernel
theorem d_238_82 : xcode 238 82 = some (.aload_n 0, 1) := by decide +kernel
theorem d_238_83 : xcode 238 83 = some (.getfield 13, 3) := by decide +kernel
theorem d_238_86 : xcode 238 86 = some (.iload_n 2, 1) := by decide +kernel
theorem d_238_87 : xcode 238 87 = some (.iload_n 1, 1) := by decide +kernel
theorem d_238_88 : xcode 238 88 = some (.invokestatic 212, 3) := by decide +kernel
theorem d_238_91 : xcode 238 91 = some (.iload_n 2, 1) := by decide +kernel
theorem d_238_92 : xcode 238 92 = some (.iconst 2, 1) := by decide +kernel
theorem d_238_93 : xcode 238 93 = some (.if_icmp .ne 13, 3) := by decide +kernel
theorem d_238_96 : xcode 238 96 = some (.lload 4, 2) := by decide +kernel
theorem d_238_98 : xcode 238 98 = some (.lconst 1, 1) := by decide +kernel
theorem d_238_99 : xcode 238 99 = some (.ladd, 1) := by decide +kernel
theorem d_238_100 : xcode 238 100 = some (.iload_n 1, 1) := by decide +kernel
theorem d_238_101 : xcode 238 101 = some (.i2l, 1) := by decide +kernel
theorem d_238_102 : xcode 238 102 = some (.lsub, 1) := by decide +kernel
theorem d_238_103 : xcode 238 103 = some (.goto 4, 3) := by decide +kernel
theorem d_238_106 : xcode 238 106 = some (.lconst 1, 1) := by decide +kernel
theorem d_238_107 : xcode 238 107 = some (.lmul, 1) := by decide +kernel
theorem d_238_108 : xcode 238 108 = some (.lload 4, 2) := by decide +kernel
theorem d_238_110 : xcode 238 110 = some (.lrem, 1) := by decide +kernel
theorem d_238_111 : xcode 238 111 = some (.lstore 6, 2) := by decide +kernel
theorem d_238_113 : xcode 238 113 = some (.aload_n 0, 1) := by decide +kernel
theorem d_238_114 : xcode 238 114 = some (.getfield 13, 3) := by decide +kernel
theorem d_238_117 : xcode 238 117 = some (.iload_n 3, 1) := by decide +kernel
theorem d_238_118 : xcode 238 118 = some (.iload_n 1, 1) := by decide +kernel
theorem d_238_119 : xcode 238 119 = some (.invokestatic 212, 3) := by decide +kernel
theorem d_238_122 : xcode 238 122 = some (.iload_n 3, 1) := by decide +kernel
theorem d_238_123 : xcode 238 123 = some (.iconst 2, 1) := by decide +kernel
theorem d_238_124 : xcode 238 124 = some (.if_icmp .ne 13, 3) := by decide +kernel
theorem d_238_127 : xcode 238 127 = some (.lload 4, 2) := by decide +kernel
theorem d_238_129 : xcode 238 129 = some (.lconst 1, 1) := by decide +kernel
theorem d_238_130 : xcode 238 130 = some (.ladd, 1) := by decide +kernel
theorem d_238_131 : xcode 238 131 = some (.iload_n 1, 1) := by decide +kernel
theorem d_238_132 : xcode 238 132 = some (.i2l, 1) := by decide +kernel
theorem d_238_133 : xcode 238 133 = some (.lsub, 1) := by decide +kernel
theorem d_238_134 : xcode 238 134 = some (.goto 4, 3) := by decide +kernel
theorem d_238_137 : xcode 238 137 = some (.lconst 1, 1) := by decide +kernel
theorem d_238_138 : xcode 238 138 = some (.lmul, 1) := by decide +kernel
theorem d_238_139 : xcode 238 139 = some (.lload 4, 2) := by decide +kernel
theorem d_238_141 : xcode 238 141 = some (.lrem, 1) := by decide +kernel
theorem d_238_142 : xcode 238 142 = some (.lstore 8, 2) := by decide +kernel
theorem d_238_144 : xcode 238 144 = some (.lload 6, 2) := by decide +kernel
theorem d_238_146 : xcode 238 146 = some (.lload 8, 2) := by decide +kernel
theorem d_238_148 : xcode 238 148 = some (.lsub, 1) := by decide +kernel
theorem d_238_149 : xcode 238 149 = some (.lload 4, 2) := by decide +kernel
theorem d_238_151 : xcode 238 151 = some (.ladd, 1) := by decide +kernel
theorem d_238_152 : xcode 238 152 = some (.lload 4, 2) := by decide +kernel
theorem d_238_154 : xcode 238 154 = some (.lrem, 1) := by decide +kernel
theorem d_238_155 : xcode 238 155 = some (.l2i, 1) := by decide +kernel
theorem d_238_156 : xcode 238 156 = some (.ireturn, 1) := by decide +kernel
theorem d_239_0 : xcode 239 0 = some (.iload_n 2, 1) := by decide +kernel
theorem d_239_1 : xcode 239 1 = some (.i2l, 1) := by decide +kernel
theorem d_239_2 : xcode 239 2 = some (.iload_n 2, 1) := by decide +kernel
theorem d_239_3 : xcode 239 3 = some (.i2l, 1) := by decide +kernel
theorem d_239_4 : xcode 239 4 = some (.lmul, 1) := by decide +kernel
theorem d_239_5 : xcode 239 5 = some (.lstore_n 3, 1) := by decide +kernel
theorem d_239_6 : xcode 239 6 = some (.aload_n 0, 1) := by decide +kernel
theorem d_239_7 : xcode 239 7 = some (.iconst 3, 1) := by decide +kernel
theorem d_239_8 : xcode 239 8 = some (.iload_n 1, 1) := by decide +kernel
theorem d_239_9 : xcode 239 9 = some (.imul, 1) := by decide +kernel
theorem d_239_10 : xcode 239 10 = some (.iconst 2, 1) := by decide +kernel
theorem d_239_11 : xcode 239 11 = some (.iadd, 1) := by decide +kernel
theorem d_239_12 : xcode 239 12 = some (.laload, 1) := by decide +kernel
theorem d_239_13 : xcode 239 13 = some (.lload_n 3, 1) := by decide +kernel
theorem d_239_14 : xcode 239 14 = some (.lrem, 1) := by decide +kernel
theorem d_239_15 : xcode 239 15 = some (.iload_n 2, 1) := by decide +kernel
theorem d_239_16 : xcode 239 16 = some (.iload_n 2, 1) := by decide +kernel
theorem d_239_17 : xcode 239 17 = some (.iconst 1, 1) := by decide +kernel
theorem d_239_18 : xcode 239 18 = some (.isub, 1) := by decide +kernel
theorem d_239_19 : xcode 239 19 = some (.imul, 1) := by decide +kernel
theorem d_239_20 : xcode 239 20 = some (.iconst 1, 1) := by decide +kernel
theorem d_239_21 : xcode 239 21 = some (.isub, 1) := by decide +kernel
theorem d_239_22 : xcode 239 22 = some (.lload_n 3, 1) := by decide +kernel
theorem d_239_23 : xcode 239 23 = some (.invokestatic 208, 3) := by decide +kernel
theorem d_239_26 : xcode 239 26 = some (.lstore 5, 2) := by decide +kernel
theorem d_239_28 : xcode 239 28 = some (.aload_n 0, 1) := by decide +kernel
theorem d_239_29 : xcode 239 29 = some (.iconst 3, 1) := by decide +kernel
theorem d_239_30 : xcode 239 30 = some (.iload_n 1, 1) := by decide +kernel
theorem d_239_31 : xcode 239 31 = some (.imul, 1) := by decide +kernel
theorem d_239_32 : xcode 239 32 = some (.laload, 1) := by decide +kernel
theorem d_239_33 : xcode 239 33 = some (.lload_n 3, 1) := by decide +kernel
theorem d_239_34 : xcode 239 34 = some (.lrem, 1) := by decide +kernel
theorem d_239_35 : xcode 239 35 = some (.lload_n 3, 1) := by decide +kernel
theorem d_239_36 : xcode 239 36 = some (.ladd, 1) := by decide +kernel
theorem d_239_37 : xcode 239 37 = some (.lload_n 3, 1) := by decide +kernel
theorem d_239_38 : xcode 239 38 = some (.lrem, 1) := by decide +kernel
theorem d_239_39 : xcode 239 39 = some (.aload_n 0, 1) := by decide +kernel
theorem d_239_40 : xcode 239 40 = some (.iconst 3, 1) := by decide +kernel
theorem d_239_41 : xcode 239 41 = some (.iload_n 1, 1) := by decide +kernel
theorem d_239_42 : xcode 239 42 = some (.imul, 1) := by decide +kernel
theorem d_239_43 : xcode 239 43 = some (.iconst 1, 1) := by decide +kernel
theorem d_239_44 : xcode 239 44 = some (.iadd, 1) := by decide +kernel
theorem d_239_45 : xcode 239 45 = some (.laload, 1) := by decide +kernel
theorem d_239_46 : xcode 239 46 = some (.lload_n 3, 1) := by decide +kernel
theorem d_239_47 : xcode 239 47 = some (.lrem, 1) := by decide +kernel
theorem d_239_48 : xcode 239 48 = some (.lload 5, 2) := by decide +kernel
theorem d_239_50 : xcode 239 50 = some (.lmul, 1) := by decide +kernel
theorem d_239_51 : xcode 239 51 = some (.lload_n 3, 1) := by decide +kernel
theorem d_239_52 : xcode 239 52 = some (.lrem, 1) := by decide +kernel
theorem d_239_53 : xcode 239 53 = some (.ladd, 1) := by decide +kernel
theorem d_239_54 : xcode 239 54 = some (.lstore 7, 2) := by decide +kernel
theorem d_239_56 : xcode 239 56 = some (.lload 7, 2) := by decide +kernel
theorem d_239_58 : xcode 239 58 = some (.lload_n 3, 1) := by decide +kernel
theorem d_239_59 : xcode 239 59 = some (.lrem, 1) := by decide +kernel
theorem d_239_60 : xcode 239 60 = some (.iload_n 1, 1) := by decide +kernel
theorem d_239_61 : xcode 239 61 = some (.i2l, 1) := by decide +kernel
theorem d_239_62 : xcode 239 62 = some (.iload_n 2, 1) := by decide +kernel
theorem d_239_63 : xcode 239 63 = some (.iload_n 2, 1) := by decide +kernel
theorem d_239_64 : xcode 239 64 = some (.iconst 1, 1) := by decide +kernel
theorem d_239_65 : xcode 239 65 = some (.isub, 1) := by decide +kernel
theorem d_239_66 : xcode 239 66 = some (.imul, 1) := by decide +kernel
theorem d_239_67 : xcode 239 67 = some (.iconst 1, 1) := by decide +kernel
theorem d_239_68 : xcode 239 68 = some (.isub, 1) := by decide +kernel
theorem d_239_69 : xcode 239 69 = some (.lload_n 3, 1) := by decide +kernel
theorem d_239_70 : xcode 239 70 = some (.invokestatic 208, 3) := by decide +kernel
theorem d_239_73 : xcode 239 73 = some (.lmul, 1) := by decide +kernel
theorem d_239_74 : xcode 239 74 = some (.lload_n 3, 1) := by decide +kernel
theorem d_239_75 : xcode 239 75 = some (.lrem, 1) := by decide +kernel
theorem d_239_76 : xcode 239 76 = some (.lreturn, 1) := by decide +kernel
theorem d_240_0 : xcode 240 0 = some (.lconst 1, 1) := by decide +kernel
theorem d_240_1 : xcode 240 1 = some (.lstore 5, 2) := by decide +kernel
theorem d_240_3 : xcode 240 3 = some (.lload_n 0, 1) := by decide +kernel
theorem d_240_4 : xcode 240 4 = some (.lload_n 3, 1) := by decide +kernel
theorem d_240_5 : xcode 240 5 = some (.lrem, 1) := by decide +kernel
theorem d_240_6 : xcode 240 6 = some (.lstore 7, 2) := by decide +kernel
theorem d_240_8 : xcode 240 8 = some (.iload_n 2, 1) := by decide +kernel
theorem d_240_9 : xcode 240 9 = some (.istore 9, 2) := by decide +kernel
theorem d_240_11 : xcode 240 11 = some (.iload 9, 2) := by decide +kernel
theorem d_240_13 : xcode 240 13 = some (.ifCond .le 38, 3) := by decide +kernel
theorem d_240_16 : xcode 240 16 = some (.iload 9, 2) := by decide +kernel
theorem d_240_18 : xcode 240 18 = some (.iconst 2, 1) := by decide +kernel
theorem d_240_19 : xcode 240 19 = some (.irem, 1) := by decide +kernel
theorem d_240_20 : xcode 240 20 = some (.iconst 1, 1) := by decide +kernel
theorem d_240_21 : xcode 240 21 = some (.if_icmp .ne 12, 3) := by decide +kernel
theorem d_240_24 : xcode 240 24 = some (.lload 5, 2) := by decide +kernel
theorem d_240_26 : xcode 240 26 = some (.lload 7, 2) := by decide +kernel
theorem d_240_28 : xcode 240 28 = some (.lmul, 1) := by decide +kernel
theorem d_240_29 : xcode 240 29 = some (.lload_n 3, 1) := by decide +kernel
theorem d_240_30 : xcode 240 30 = some (.lrem, 1) := by decide +kernel
theorem d_240_31 : xcode 240 31 = some (.lstore 5, 2) := by decide +kernel
theorem d_240_33 : xcode 240 33 = some (.lload 7, 2) := by decide +kernel
theorem d_240_35 : xcode 240 35 = some (.lload 7, 2) := by decide +kernel
theorem d_240_37 : xcode 240 37 = some (.lmul, 1) := by decide +kernel
theorem d_240_38 : xcode 240 38 = some (.lload_n 3, 1) := by decide +kernel
theorem d_240_39 : xcode 240 39 = some (.lrem, 1) := by decide +kernel
theorem d_240_40 : xcode 240 40 = some (.lstore 7, 2) := by decide +kernel
theorem d_240_42 : xcode 240 42 = some (.iload 9, 2) := by decide +kernel
theorem d_240_44 : xcode 240 44 = some (.iconst 2, 1) := by decide +kernel
theorem d_240_45 : xcode 240 45 = some (.idiv, 1) := by decide +kernel
theorem d_240_46 : xcode 240 46 = some (.istore 9, 2) := by decide +kernel
theorem d_240_48 : xcode 240 48 = some (.goto (-37), 3) := by decide +kernel
theorem d_240_51 : xcode 240 51 = some (.lload 5, 2) := by decide +kernel
theorem d_240_53 : xcode 240 53 = some (.lreturn, 1) := by decide +kernel
theorem d_241_0 : xcode 241 0 = some (.aload_n 0, 1) := by decide +kernel
theorem d_241_1 : xcode 241 1 = some (.iconst 0, 1) := by decide +kernel
theorem d_241_2 : xcode 241 2 = some (.putfield 118, 3) := by decide +kernel
theorem d_241_5 : xcode 241 5 = some (.aload_n 0, 1) := by decide +kernel
theorem d_241_6 : xcode 241 6 = some (.iload_n 1, 1) := by decide +kernel
theorem d_241_7 : xcode 241 7 = some (.invokevirtual 145, 3) := by decide +kernel
theorem d_241_10 : xcode 241 10 = some (.ifCond .ne 7, 3) := by decide +kernel
theorem d_241_13 : xcode 241 13 = some (.iconst (-1), 1) := by decide +kernel
theorem d_241_14 : xcode 241 14 = some (.goto 21, 3) := by decide +kernel
theorem d_241_17 : xcode 241 17 = some (.iload_n 1, 1) := by decide +kernel
theorem d_241_18 : xcode 241 18 = some (.aload_n 0, 1) := by decide +kernel
theorem d_241_19 : xcode 241 19 = some (.getfield 20, 3) := by decide +kernel
theorem d_241_22 : xcode 241 22 = some (.if_icmp .le 8, 3) := by decide +kernel
theorem d_241_25 : xcode 241 25 = some (.bipush (-2), 2) := by decide +kernel
theorem d_241_27 : xcode 241 27 = some (.goto 8, 3) := by decide +kernel
theorem d_241_30 : xcode 241 30 = some (.aload_n 0, 1) := by decide +kernel
theorem d_241_31 : xcode 241 31 = some (.iload_n 1, 1) := by decide +kernel
theorem d_241_32 : xcode 241 32 = some (.invokevirtual 158, 3) := by decide +kernel
theorem d_241_35 : xcode 241 35 = some (.ireturn, 1) := by decide +kernel
theorem d_242_0 : xcode 242 0 = some (.aload_n 0, 1) := by decide +kernel
theorem d_242_1 : xcode 242 1 = some (.iconst 0, 1) := by decide +kernel
theorem d_242_2 : xcode 242 2 = some (.putfield 118, 3) := by decide +kernel
theorem d_242_5 : xcode 242 5 = some (.iload_n 1, 1) := by decide +kernel
theorem d_242_6 : xcode 242 6 = some (.iconst 0, 1) := by decide +kernel
theorem d_242_7 : xcode 242 7 = some (.bipush 63, 2) := by decide +kernel
theorem d_242_9 : xcode 242 9 = some (.invokestatic 137, 3) := by decide +kernel
theorem d_242_12 : xcode 242 12 = some (.ifCond .ne 7, 3) := by decide +kernel
theorem d_242_15 : xcode 242 15 = some (.ldc2_w 166, 3) := by decide +kernel
theorem d_242_18 : xcode 242 18 = some (.lreturn, 1) := by decide +kernel
theorem d_242_19 : xcode 242 19 = some (.lconst 0, 1) := by decide +kernel
theorem d_242_20 : xcode 242 20 = some (.lstore_n 2, 1) := by decide +kernel
theorem d_242_21 : xcode 242 21 = some (.iconst 0, 1) := by decide +kernel
theorem d_242_22 : xcode 242 22 = some (.istore 4, 2) := by decide +kernel
theorem d_242_24 : xcode 242 24 = some (.iload 4, 2) := by decide +kernel
theorem d_242_26 : xcode 242 26 = some (.aload_n 0, 1) := by decide +kernel
theorem d_242_27 : xcode 242 27 = some (.getfield 20, 3) := by decide +kernel
theorem d_242_30 : xcode 242 30 = some (.if_icmp .gt 27, 3) := by decide +kernel
theorem d_242_33 : xcode 242 33 = some (.aload_n 0, 1) := by decide +kernel
theorem d_242_34 : xcode 242 34 = some (.iload 4, 2) := by decide +kernel
theorem d_242_36 : xcode 242 36 = some (.invokevirtual 158, 3) := by decide +kernel
theorem d_242_39 : xcode 242 39 = some (.iload_n 1, 1) := by decide +kernel
theorem d_242_40 : xcode 242 40 = some (.iand, 1) := by decide +kernel
theorem d_242_41 : xcode 242 41 = some (.ifCond .eq 10, 3) := by decide +kernel
theorem d_242_44 : xcode 242 44 = some (.lload_n 2, 1) := by decide +kernel
theorem d_242_45 : xcode 242 45 = some (.lconst 1, 1) := by decide +kernel
theorem d_242_46 : xcode 242 46 = some (.iload 4, 2) := by decide +kernel
theorem d_242_48 : xcode 242 48 = some (.lshl, 1) := by decide +kernel
theorem d_242_49 : xcode 242 49 = some (.lor, 1) := by decide +kernel
theorem d_242_50 : xcode 242 50 = some (.lstore_n 2, 1) := by decide +kernel
theorem d_242_51 : xcode 242 51 = some (.iinc 4 1, 3) := by decide +kernel
theorem d_242_54 : xcode 242 54 = some (.goto (-30), 3) := by decide +kernel
theorem d_242_57 : xcode 242 57 = some (.lload_n 2, 1) := by decide +kernel
theorem d_242_58 : xcode 242 58 = some (.lreturn, 1) := by decide +kernel
theorem d_243_0 : xcode 243 0 = some (.aload_n 0, 1) := by decide +kernel
theorem d_243_1 : xcode 243 1 = some (.iconst 0, 1) := by decide +kernel
theorem d_243_2 : xcode 243 2 = some (.putfield 118, 3) := by decide +kernel
theorem d_243_5 : xcode 243 5 = some (.iload_n 1, 1) := by decide +kernel
theorem d_243_6 : xcode 243 6 = some (.iconst 0, 1) := by decide +kernel
theorem d_243_7 : xcode 243 7 = some (.bipush 63, 2) := by decide +kernel
theorem d_243_9 : xcode 243 9 = some (.invokestatic 137, 3) := by decide +kernel
theorem d_243_12 : xcode 243 12 = some (.ifCond .ne 5, 3) := by decide +kernel
theorem d_243_15 : xcode 243 15 = some (.iconst (-1), 1) := by decide +kernel
theorem d_243_16 : xcode 243 16 = some (.ireturn, 1) := by decide +kernel
theorem d_243_17 : xcode 243 17 = some (.lconst 0, 1) := by decide +kernel
theorem d_243_18 : xcode 243 18 = some (.lstore_n 2, 1) := by decide +kernel
theorem d_243_19 : xcode 243 19 = some (.iconst 0, 1) := by decide +kernel
theorem d_243_20 : xcode 243 20 = some (.istore 4, 2) := by decide +kernel
theorem d_243_22 : xcode 243 22 = some (.iload 4, 2) := by decide +kernel
theorem d_243_24 : xcode 243 24 = some (.aload_n 0, 1) := by decide +kernel
theorem d_243_25 : xcode 243 25 = some (.getfield 20, 3) := by decide +kernel
theorem d_243_28 : xcode 243 28 = some (.if_icmp .gt 27, 3) := by decide +kernel
theorem d_243_31 : xcode 243 31 = some (.aload_n 0, 1) := by decide +kernel
theorem d_243_32 : xcode 243 32 = some (.iload 4, 2) := by decide +kernel
theorem d_243_34 : xcode 243 34 = some (.invokevirtual 158, 3) := by decide +kernel
theorem d_243_37 : xcode 243 37 = some (.iload_n 1, 1) := by decide +kernel
theorem d_243_38 : xcode 243 38 = some (.iand, 1) := by decide +kernel
theorem d_243_39 : xcode 243 39 = some (.ifCond .eq 10, 3) := by decide +kernel
theorem d_243_42 : xcode 243 42 = some (.lload_n 2, 1) := by decide +kernel
theorem d_243_43 : xcode 243 43 = some (.lconst 1, 1) := by decide +kernel
theorem d_243_44 : xcode 243 44 = some (.iload 4, 2) := by decide +kernel
theorem d_243_46 : xcode 243 46 = some (.lshl, 1) := by decide +kernel
theorem d_243_47 : xcode 243 47 = some (.lor, 1) := by decide +kernel
theorem d_243_48 : xcode 243 48 = some (.lstore_n 2, 1) := by decide +kernel
theorem d_243_49 : xcode 243 49 = some (.iinc 4 1, 3) := by decide +kernel
theorem d_243_52 : xcode 243 52 = some (.goto (-30), 3) := by decide +kernel
theorem d_243_55 : xcode 243 55 = some (.iconst 0, 1) := by decide +kernel
theorem d_243_56 : xcode 243 56 = some (.istore 4, 2) := by decide +kernel
theorem d_243_58 : xcode 243 58 = some (.iconst 0, 1) := by decide +kernel
theorem d_243_59 : xcode 243 59 = some (.istore 5, 2) := by decide +kernel
theorem d_243_61 : xcode 243 61 = some (.iload 5, 2) := by decide +kernel
theorem d_243_63 : xcode 243 63 = some (.aload_n 0, 1) := by decide +kernel
theorem d_243_64 : xcode 243 64 = some (.getfield 20, 3) := by decide +kernel
theorem d_243_67 : xcode 243 67 = some (.if_icmp .gt 49, 3) := by decide +kernel
theorem d_243_70 : xcode 243 70 = some (.lload_n 2, 1) := by decide +kernel
theorem d_243_71 : xcode 243 71 = some (.iload 5, 2) := by decide +kernel
theorem d_243_73 : xcode 243 73 = some (.lshr, 1) := by decide +kernel
theorem d_243_74 : xcode 243 74 = some (.lconst 1, 1) := by decide +kernel
theorem d_243_75 : xcode 243 75 = some (.land, 1) := by decide +kernel
theorem d_243_76 : xcode 243 76 = some (.lconst 0, 1) := by decide +kernel
theorem d_243_77 : xcode 243 77 = some (.lcmp, 1) := by decide +kernel
theorem d_243_78 : xcode 243 78 = some (.ifCond .ne 6, 3) := by decide +kernel
theorem d_243_81 : xcode 243 81 = some (.goto 29, 3) := by decide +kernel
theorem d_243_84 : xcode 243 84 = some (.iload 4, 2) := by decide +kernel
theorem d_243_86 : xcode 243 86 = some (.aload_n 0, 1) := by decide +kernel
theorem d_243_87 : xcode 243 87 = some (.iload 5, 2) := by decide +kernel
theorem d_243_89 : xcode 243 89 = some (.invokevirtual 141, 3) := by decide +kernel
theorem d_243_92 : xcode 243 92 = some (.ifCond .eq 7, 3) := by decide +kernel
theorem d_243_95 : xcode 243 95 = some (.iconst 0, 1) := by decide +kernel
theorem d_243_96 : xcode 243 96 = some (.goto 4, 3) := by decide +kernel
theorem d_243_99 : xcode 243 99 = some (.iconst 1, 1) := by decide +kernel
theorem d_243_100 : xcode 243 100 = some (.iadd, 1) := by decide +kernel
theorem d_243_101 : xcode 243 101 = some (.istore 4, 2) := by decide +kernel
theorem d_243_103 : xcode 243 103 = some (.aload_n 0, 1) := by decide +kernel
theorem d_243_104 : xcode 243 104 = some (.iload 5, 2) := by decide +kernel
theorem d_243_106 : xcode 243 106 = some (.iconst 1, 1) := by decide +kernel
theorem d_243_107 : xcode 243 107 = some (.invokevirtual 151, 3) := by decide +kernel
theorem d_243_110 : xcode 243 110 = some (.iinc 5 1, 3) := by decide +kernel
theorem d_243_113 : xcode 243 113 = some (.goto (-52), 3) := by decide +kernel
theorem d_243_116 : xcode 243 116 = some (.iload 4, 2) := by decide +kernel
theorem d_243_118 : xcode 243 118 = some (.ireturn, 1) := by decide +kernel
theorem d_244_0 : xcode 244 0 = some (.aload_n 0, 1) := by decide +kernel
theorem d_244_1 : xcode 244 1 = some (.iconst 0, 1) := by decide +kernel
theorem d_244_2 : xcode 244 2 = some (.putfield 118, 3) := by decide +kernel
theorem d_244_5 : xcode 244 5 = some (.iload_n 1, 1) := by decide +kernel
theorem d_244_6 : xcode 244 6 = some (.iconst 0, 1) := by decide +kernel
theorem d_244_7 : xcode 244 7 = some (.bipush 63, 2) := by decide +kernel
theorem d_244_9 : xcode 244 9 = some (.invokestatic 137, 3) := by decide +kernel
theorem d_244_12 : xcode 244 12 = some (.ifCond .ne 5, 3) := by decide +kernel
theorem d_244_15 : xcode 244 15 = some (.iconst (-1), 1) := by decide +kernel
theorem d_244_16 : xcode 244 16 = some (.ireturn, 1) := by decide +kernel
theorem d_244_17 : xcode 244 17 = some (.iconst 0, 1) := by decide +kernel
theorem d_244_18 : xcode 244 18 = some (.istore_n 2, 1) := by decide +kernel
theorem d_244_19 : xcode 244 19 = some (.iload_n 2, 1) := by decide +kernel
theorem d_244_20 : xcode 244 20 = some (.aload_n 0, 1) := by decide +kernel
theorem d_244_21 : xcode 244 21 = some (.getfield 20, 3) := by decide +kernel
theorem d_244_24 : xcode 244 24 = some (.if_icmp .gt 105, 3) := by decide +kernel
theorem d_244_27 : xcode 244 27 = some (.aload_n 0, 1) := by decide +kernel
theorem d_244_28 : xcode 244 28 = some (.getfield 13, 3) := by decide +kernel
theorem d_244_31 : xcode 244 31 = some (.iconst 3, 1) := by decide +kernel
theorem d_244_32 : xcode 244 32 = some (.iload_n 2, 1) := by decide +kernel
theorem d_244_33 : xcode 244 33 = some (.imul, 1) := by decide +kernel
theorem d_244_34 : xcode 244 34 = some (.laload, 1) := by decide +kernel
theorem d_244_35 : xcode 244 35 = some (.lstore_n 3, 1) := by decide +kernel
theorem d_244_36 : xcode 244 36 = some (.aload_n 0, 1) := by decide +kernel
theorem d_244_37 : xcode 244 37 = some (.getfield 13, 3) := by decide +kernel
theorem d_244_40 : xcode 244 40 = some (.iconst 3, 1) := by decide +kernel
theorem d_244_41 : xcode 244 41 = some (.iload_n 2, 1) := by decide +kernel
theorem d_244_42 : xcode 244 42 = some (.imul, 1) := by decide +kernel
theorem d_244_43 : xcode 244 43 = some (.iconst 1, 1) := by decide +kernel
theorem d_244_44 : xcode 244 44 = some (.iadd, 1) := by decide +kernel
theorem d_244_45 : xcode 244 45 = some (.laload, 1) := by decide +kernel
theorem d_244_46 : xcode 244 46 = some (.lstore 5, 2) := by decide +kernel
theorem d_244_48 : xcode 244 48 = some (.aload_n 0, 1) := by decide +kernel
theorem d_244_49 : xcode 244 49 = some (.getfield 13, 3) := by decide +kernel
theorem d_244_52 : xcode 244 52 = some (.iconst 3, 1) := by decide +kernel
theorem d_244_53 : xcode 244 53 = some (.iload_n 2, 1) := by decide +kernel
theorem d_244_54 : xcode 244 54 = some (.imul, 1) := by decide +kernel
theorem d_244_55 : xcode 244 55 = some (.iconst 2, 1) := by decide +kernel
theorem d_244_56 : xcode 244 56 = some (.iadd, 1) := by decide +kernel
theorem d_244_57 : xcode 244 57 = some (.laload, 1) := by decide +kernel
theorem d_244_58 : xcode 244 58 = some (.lstore 7, 2) := by decide +kernel
theorem d_244_60 : xcode 244 60 = some (.aload_n 0, 1) := by decide +kernel
theorem d_244_61 : xcode 244 61 = some (.getfield 13, 3) := by decide +kernel
theorem d_244_64 : xcode 244 64 = some (.iload_n 2, 1) := by decide +kernel
theorem d_244_65 : xcode 244 65 = some (.aload_n 0, 1) := by decide +kernel
theorem d_244_66 : xcode 244 66 = some (.getfield 7, 3) := by decide +kernel
theorem d_244_69 : xcode 244 69 = some (.iconst 3, 1) := by decide +kernel
theorem d_244_70 : xcode 244 70 = some (.iload_n 2, 1) := by decide +kernel
theorem d_244_71 : xcode 244 71 = some (.imul, 1) := by decide +kernel
theorem d_244_72 : xcode 244 72 = some (.laload, 1) := by decide +kernel
theorem d_244_73 : xcode 244 73 = some (.aload_n 0, 1) := by decide +kernel
theorem d_244_74 : xcode 244 74 = some (.getfield 7, 3) := by decide +kernel
theorem d_244_77 : xcode 244 77 = some (.iconst 3, 1) := by decide +kernel
theorem d_244_78 : xcode 244 78 = some (.iload_n 2, 1) := by decide +kernel
theorem d_244_79 : xcode 244 79 = some (.imul, 1) := by decide +kernel
theorem d_244_80 : xcode 244 80 = some (.iconst 1, 1) := by decide +kernel
theorem d_244_81 : xcode 244 81 = some (.iadd, 1) := by decide +kernel
theorem d_244_82 : xcode 244 82 = some (.laload, 1) := by decide +kernel
theorem d_244_83 : xcode 244 83 = some (.aload_n 0, 1) := by decide +kernel
theorem d_244_84 : xcode 244 84 = some (.getfield 7, 3) := by decide +kernel
theorem d_244_87 : xcode 244 87 = some (.iconst 3, 1) := by decide +kernel
theorem d_244_88 : xcode 244 88 = some (.iload_n 2, 1) := by decide +kernel
theorem d_244_89 : xcode 244 89 = some (.imul, 1) := by decide +kernel
theorem d_244_90 : xcode 244 90 = some (.iconst 2, 1) := by decide +kernel
theorem d_244_91 : xcode 244 91 = some (.iadd, 1) := by decide +kernel
theorem d_244_92 : xcode 244 92 = some (.laload, 1) := by decide +kernel
theorem d_244_93 : xcode 244 93 = some (.invokestatic 99, 3) := by decide +kernel
theorem d_244_96 : xcode 244 96 = some (.aload_n 0, 1) := by decide +kernel
theorem d_244_97 : xcode 244 97 = some (.iload_n 1, 1) := by decide +kernel
theorem d_244_98 : xcode 244 98 = some (.invokevirtual 240, 3) := by decide +kernel
theorem d_244_101 : xcode 244 101 = some (.istore 9, 2) := by decide +kernel
theorem d_244_103 : xcode 244 103 = some (.aload_n 0, 1) := by decide +kernel
theorem d_244_104 : xcode 244 104 = some (.getfield 13, 3) := by decide +kernel
theorem d_244_107 : xcode 244 107 = some (.iload_n 2, 1) := by decide +kernel
theorem d_244_108 : xcode 244 108 = some (.lload_n 3, 1) := by decide +kernel
theorem d_244_109 : xcode 244 109 = some (.lload 5, 2) := by decide +kernel
theorem d_244_111 : xcode 244 111 = some (.lload 7, 2) := by decide +kernel
theorem d_244_113 : xcode 244 113 = some (.invokestatic 99, 3) := by decide +kernel
theorem d_244_116 : xcode 244 116 = some (.iload 9, 2) := by decide +kernel
theorem d_244_118 : xcode 244 118 = some (.ifCond .ne 5, 3) := by decide +kernel
theorem d_244_121 : xcode 244 121 = some (.iload_n 2, 1) := by decide +kernel
theorem d_244_122 : xcode 244 122 = some (.ireturn, 1) := by decide +kernel
theorem d_244_123 : xcode 244 123 = some (.iinc 2 1, 3) := by decide +kernel
theorem d_244_126 : xcode 244 126 = some (.goto (-107), 3) := by decide +kernel
theorem d_244_129 : xcode 244 129 = some (.bipush (-2), 2) := by decide +kernel
theorem d_244_131 : xcode 244 131 = some (.ireturn, 1) := by decide +kernel
theorem d_245_0 : xcode 245 0 = some (.iconst 0, 1) := by decide +kernel
theorem d_245_1 : xcode 245 1 = some (.istore_n 2, 1) := by decide +kernel
theorem d_245_2 : xcode 245 2 = some (.iload_n 2, 1) := by decide +kernel
theorem d_245_3 : xcode 245 3 = some (.aload_n 0, 1) := by decide +kernel
theorem d_245_4 : xcode 245 4 = some (.getfield 20, 3) := by decide +kernel
theorem d_245_7 : xcode 245 7 = some (.if_icmp .gt 21, 3) := by decide +kernel
theorem d_245_10 : xcode 245 10 = some (.aload_n 0, 1) := by decide +kernel
theorem d_245_11 : xcode 245 11 = some (.iload_n 2, 1) := by decide +kernel
theorem d_245_12 : xcode 245 12 = some (.invokevirtual 158, 3) := by decide +kernel
theorem d_245_15 : xcode 245 15 = some (.iload_n 1, 1) := by decide +kernel
theorem d_245_16 : xcode 245 16 = some (.iand, 1) := by decide +kernel
theorem d_245_17 : xcode 245 17 = some (.ifCond .eq 5, 3) := by decide +kernel
theorem d_245_20 : xcode 245 20 = some (.iconst 1, 1) := by decide +kernel
theorem d_245_21 : xcode 245 21 = some (.ireturn, 1) := by decide +kernel
theorem d_245_22 : xcode 245 22 = some (.iinc 2 1, 3) := by decide +kernel
theorem d_245_25 : xcode 245 25 = some (.goto (-23), 3) := by decide +kernel
theorem d_245_28 : xcode 245 28 = some (.iconst 0, 1) := by decide +kernel
theorem d_245_29 : xcode 245 29 = some (.ireturn, 1) := by decide +kernel
theorem d_246_0 : xcode 246 0 = some (.aload_n 0, 1) := by decide +kernel
theorem d_246_1 : xcode 246 1 = some (.iconst 0, 1) := by decide +kernel
theorem d_246_2 : xcode 246 2 = some (.putfield 118, 3) := by decide +kernel
theorem d_246_5 : xcode 246 5 = some (.iload_n 1, 1) := by decide +kernel
theorem d_246_6 : xcode 246 6 = some (.ifCond .lt 23, 3) := by decide +kernel
theorem d_246_9 : xcode 246 9 = some (.iload_n 2, 1) := by decide +kernel
theorem d_246_10 : xcode 246 10 = some (.iconst 1, 1) := by decide +kernel
theorem d_246_11 : xcode 246 11 = some (.bipush 20, 2) := by decide +kernel
theorem d_246_13 : xcode 246 13 = some (.invokestatic 137, 3) := by decide +kernel
theorem d_246_16 : xcode 246 16 = some (.ifCond .eq 13, 3) := by decide +kernel
theorem d_246_19 : xcode 246 19 = some (.iload_n 3, 1) := by decide +kernel
theorem d_246_20 : xcode 246 20 = some (.iconst 0, 1) := by decide +kernel
theorem d_246_21 : xcode 246 21 = some (.bipush 63, 2) := by decide +kernel
theorem d_246_23 : xcode 246 23 = some (.invokestatic 137, 3) := by decide +kernel
theorem d_246_26 : xcode 246 26 = some (.ifCond .ne 5, 3) := by decide +kernel
theorem d_246_29 : xcode 246 29 = some (.iconst (-1), 1) := by decide +kernel
theorem d_246_30 : xcode 246 30 = some (.ireturn, 1) := by decide +kernel
theorem d_246_31 : xcode 246 31 = some (.aload_n 0, 1) := by decide +kernel
theorem d_246_32 : xcode 246 32 = some (.getfield 20, 3) := by decide +kernel
theorem d_246_35 : xcode 246 35 = some (.ifCond .ge 6, 3) := by decide +kernel
theorem d_246_38 : xcode 246 38 = some (.bipush (-2), 2) := by decide +kernel
theorem d_246_40 : xcode 246 40 = some (.ireturn, 1) := by decide +kernel
theorem d_246_41 : xcode 246 41 = some (.aload_n 0, 1) := by decide +kernel
theorem d_246_42 : xcode 246 42 = some (.iload_n 1, 1) := by decide +kernel
theorem d_246_43 : xcode 246 43 = some (.i2l, 1) := by decide +kernel
theorem d_246_44 : xcode 246 44 = some (.putfield 243, 3) := by decide +kernel
theorem d_246_47 : xcode 246 47 = some (.iconst 0, 1) := by decide +kernel
theorem d_246_48 : xcode 246 48 = some (.istore 4, 2) := by decide +kernel
theorem d_246_50 : xcode 246 50 = some (.iload 4, 2) := by decide +kernel
theorem d_246_52 : xcode 246 52 = some (.bipush 117, 2) := by decide +kernel
theorem d_246_54 : xcode 246 54 = some (.if_icmp .ge 23, 3) := by decide +kernel
theorem d_246_57 : xcode 246 57 = some (.aload_n 0, 1) := by decide +kernel
theorem d_246_58 : xcode 246 58 = some (.getfield 39, 3) := by decide +kernel
theorem d_246_61 : xcode 246 61 = some (.iload 4, 2) := by decide +kernel
theorem d_246_63 : xcode 246 63 = some (.aload_n 0, 1) := by decide +kernel
theorem d_246_64 : xcode 246 64 = some (.getfield 13, 3) := by decide +kernel
theorem d_246_67 : xcode 246 67 = some (.iload 4, 2) := by decide +kernel
theorem d_246_69 : xcode 246 69 = some (.laload, 1) := by decide +kernel
theorem d_246_70 : xcode 246 70 = some (.lastore, 1) := by decide +kernel
theorem d_246_71 : xcode 246 71 = some (.iinc 4 1, 3) := by decide +kernel
theorem d_246_74 : xcode 246 74 = some (.goto (-24), 3) := by decide +kernel
theorem d_246_77 : xcode 246 77 = some (.iconst 0, 1) := by decide +kernel
theorem d_246_78 : xcode 246 78 = some (.istore 4, 2) := by decide +kernel
theorem d_246_80 : xcode 246 80 = some (.iload 4, 2) := by decide +kernel
theorem d_246_82 : xcode 246 82 = some (.iload_n 2, 1) := by decide +kernel
theorem d_246_83 : xcode 246 83 = some (.if_icmp .ge 54, 3) := by decide +kernel
theorem d_246_86 : xcode 246 86 = some (.aload_n 0, 1) := by decide +kernel
theorem d_246_87 : xcode 246 87 = some (.aload_n 0, 1) := by decide +kernel
theorem d_246_88 : xcode 246 88 = some (.getfield 20, 3) := by decide +kernel
theorem d_246_91 : xcode 246 91 = some (.iconst 1, 1) := by decide +kernel
theorem d_246_92 : xcode 246 92 = some (.iadd, 1) := by decide +kernel
theorem d_246_93 : xcode 246 93 = some (.invokevirtual 254, 3) := by decide +kernel
theorem d_246_96 : xcode 246 96 = some (.istore 5, 2) := by decide +kernel
theorem d_246_98 : xcode 246 98 = some (.aload_n 0, 1) := by decide +kernel
theorem d_246_99 : xcode 246 99 = some (.bipush 9, 2) := by decide +kernel
theorem d_246_101 : xcode 246 101 = some (.invokevirtual 254, 3) := by decide +kernel
theorem d_246_104 : xcode 246 104 = some (.iconst 1, 1) := by decide +kernel
theorem d_246_105 : xcode 246 105 = some (.iadd, 1) := by decide +kernel
theorem d_246_106 : xcode 246 106 = some (.istore 6, 2) := by decide +kernel
theorem d_246_108 : xcode 246 108 = some (.aload_n 0, 1) := by decide +kernel
theorem d_246_109 : xcode 246 109 = some (.iload 5, 2) := by decide +kernel
theorem d_246_111 : xcode 246 111 = some (.aload_n 0, 1) := by decide +kernel
theorem d_246_112 : xcode 246 112 = some (.iconst 2, 1) := by decide +kernel
theorem d_246_113 : xcode 246 113 = some (.invokevirtual 254, 3) := by decide +kernel
theorem d_246_116 : xcode 246 116 = some (.iconst 1, 1) := by decide +kernel
theorem d_246_117 : xcode 246 117 = some (.if_icmp .ne 9, 3) := by decide +kernel
theorem d_246_120 : xcode 246 120 = some (.iload 6, 2) := by decide +kernel
theorem d_246_122 : xcode 246 122 = some (.ineg, 1) := by decide +kernel
theorem d_246_123 : xcode 246 123 = some (.goto 5, 3) := by decide +kernel
theorem d_246_126 : xcode 246 126 = some (.iload 6, 2) := by decide +kernel
theorem d_246_128 : xcode 246 128 = some (.invokevirtual 155, 3) := by decide +kernel
theorem d_246_131 : xcode 246 131 = some (.iinc 4 1, 3) := by decide +kernel
theorem d_246_134 : xcode 246 134 = some (.goto (-54), 3) := by decide +kernel
theorem d_246_137 : xcode 246 137 = some (.iconst 0, 1) := by decide +kernel
theorem d_246_138 : xcode 246 138 = some (.istore 4, 2) := by decide +kernel
theorem d_246_140 : xcode 246 140 = some (.iconst 0, 1) := by decide +kernel
theorem d_246_141 : xcode 246 141 = some (.istore 5, 2) := by decide +kernel
theorem d_246_143 : xcode 246 143 = some (.iload 5, 2) := by decide +kernel
theorem d_246_145 : xcode 246 145 = some (.aload_n 0, 1) := by decide +kernel
theorem d_246_146 : xcode 246 146 = some (.getfield 20, 3) := by decide +kernel
theorem d_246_149 : xcode 246 149 = some (.if_icmp .gt 39, 3) := by decide +kernel
theorem d_246_152 : xcode 246 152 = some (.iload 4, 2) := by decide +kernel
theorem d_246_154 : xcode 246 154 = some (.aload_n 0, 1) := by decide +kernel
theorem d_246_155 : xcode 246 155 = some (.iload 5, 2) := by decide +kernel
theorem d_246_157 : xcode 246 157 = some (.invokevirtual 141, 3) := by decide +kernel
theorem d_246_160 : xcode 246 160 = some (.ifCond .ne 18, 3) := by decide +kernel
theorem d_246_163 : xcode 246 163 = some (.aload_n 0, 1) := by decide +kernel
theorem d_246_164 : xcode 246 164 = some (.iload 5, 2) := by decide +kernel
theorem d_246_166 : xcode 246 166 = some (.invokevirtual 158, 3) := by decide +kernel
theorem d_246_169 : xcode 246 169 = some (.iload_n 3, 1) := by decide +kernel
theorem d_246_170 : xcode 246 170 = some (.iand, 1) := by decide +kernel
theorem d_246_171 : xcode 246 171 = some (.ifCond .eq 7, 3) := by decide +kernel
theorem d_246_174 : xcode 246 174 = some (.iconst 1, 1) := by decide +kernel
theorem d_246_175 : xcode 246 175 = some (.goto 4, 3) := by decide +kernel
theorem d_246_178 : xcode 246 178 = some (.iconst 0, 1) := by decide +kernel
theorem d_246_179 : xcode 246 179 = some (.iadd, 1) := by decide +kernel
theorem d_246_180 : xcode 246 180 = some (.istore 4, 2) := by decide +kernel
theorem d_246_182 : xcode 246 182 = some (.iinc 5 1, 3) := by decide +kernel
theorem d_246_185 : xcode 246 185 = some (.goto (-42), 3) := by decide +kernel
theorem d_246_188 : xcode 246 188 = some (.iconst 0, 1) := by decide +kernel
theorem d_246_189 : xcode 246 189 = some (.istore 5, 2) := by decide +kernel
theorem d_246_191 : xcode 246 191 = some (.iload 5, 2) := by decide +kernel
theorem d_246_193 : xcode 246 193 = some (.bipush 117, 2) := by decide +kernel
theorem d_246_195 : xcode 246 195 = some (.if_icmp .ge 23, 3) := by decide +kernel
theorem d_246_198 : xcode 246 198 = some (.aload_n 0, 1) := by decide +kernel
theorem d_246_199 : xcode 246 199 = some (.getfield 13, 3) := by decide +kernel
theorem d_246_202 : xcode 246 202 = some (.iload 5, 2) := by decide +kernel
theorem d_246_204 : xcode 246 204 = some (.aload_n 0, 1) := by decide +kernel
theorem d_246_205 : xcode 246 205 = some (.getfield 39, 3) := by decide +kernel
theorem d_246_208 : xcode 246 208 = some (.iload 5, 2) := by decide +kernel
theorem d_246_210 : xcode 246 210 = some (.laload, 1) := by decide +kernel
theorem d_246_211 : xcode 246 211 = some (.lastore, 1) := by decide +kernel
theorem d_246_212 : xcode 246 212 = some (.iinc 5 1, 3) := by decide +kernel
theorem d_246_215 : xcode 246 215 = some (.goto (-24), 3) := by decide +kernel
theorem d_246_218 : xcode 246 218 = some (.iload 4, 2) := by decide +kernel
theorem d_246_220 : xcode 246 220 = some (.ireturn, 1) := by decide +kernel
theorem d_247_0 : xcode 247 0 = some (.aload_n 0, 1) := by decide +kernel
theorem d_247_1 : xcode 247 1 = some (.aload_n 0, 1) := by decide +kernel
theorem d_247_2 : xcode 247 2 = some (.getfield 243, 3) := by decide +kernel
theorem d_247_5 : xcode 247 5 = some (.ldc2_w 246, 3) := by decide +kernel
theorem d_247_8 : xcode 247 8 = some (.lmul, 1) := by decide +kernel
theorem d_247_9 : xcode 247 9 = some (.ldc2_w 248, 3) := by decide +kernel
theorem d_247_12 : xcode 247 12 = some (.ladd, 1) := by decide +kernel
theorem d_247_13 : xcode 247 13 = some (.ldc2_w 250, 3) := by decide +kernel
theorem d_247_16 : xcode 247 16 = some (.land, 1) := by decide +kernel
theorem d_247_17 : xcode 247 17 = some (.putfield 243, 3) := by decide +kernel
theorem d_247_20 : xcode 247 20 = some (.aload_n 0, 1) := by decide +kernel
theorem d_247_21 : xcode 247 21 = some (.getfield 243, 3) := by decide +kernel
theorem d_247_24 : xcode 247 24 = some (.ldc2_w 252, 3) := by decide +kernel
theorem d_247_27 : xcode 247 27 = some (.ldiv, 1) := by decide +kernel
theorem d_247_28 : xcode 247 28 = some (.iload_n 1, 1) := by decide +kernel
theorem d_247_29 : xcode 247 29 = some (.i2l, 1) := by decide +kernel
theorem d_247_30 : xcode 247 30 = some (.lrem, 1) := by decide +kernel
theorem d_247_31 : xcode 247 31 = some (.l2i, 1) := by decide +kernel
theorem d_247_32 : xcode 247 32 = some (.ireturn, 1) := by decide +kernel
theorem d_248_0 : xcode 248 0 = some (.aload_n 0, 1) := by decide +kernel
theorem d_248_1 : xcode 248 1 = some (.iconst 0, 1) := by decide +kernel
theorem d_248_2 : xcode 248 2 = some (.putfield 118, 3) := by decide +kernel
theorem d_248_5 : xcode 248 5 = some (.iload_n 1, 1) := by decide +kernel
theorem d_248_6 : xcode 248 6 = some (.iconst 1, 1) := by decide +kernel
theorem d_248_7 : xcode 248 7 = some (.bipush 38, 2) := by decide +kernel
theorem d_248_9 : xcode 248 9 = some (.invokestatic 137, 3) := by decide +kernel
theorem d_248_12 : xcode 248 12 = some (.ifCond .eq 20, 3) := by decide +kernel
theorem d_248_15 : xcode 248 15 = some (.iload_n 2, 1) := by decide +kernel
theorem d_248_16 : xcode 248 16 = some (.iconst 0, 1) := by decide +kernel
theorem d_248_17 : xcode 248 17 = some (.iconst 2, 1) := by decide +kernel
theorem d_248_18 : xcode 248 18 = some (.invokestatic 137, 3) := by decide +kernel
theorem d_248_21 : xcode 248 21 = some (.ifCond .eq 11, 3) := by decide +kernel
theorem d_248_24 : xcode 248 24 = some (.iload_n 1, 1) := by decide +kernel
theorem d_248_25 : xcode 248 25 = some (.aload_n 0, 1) := by decide +kernel
theorem d_248_26 : xcode 248 26 = some (.getfield 20, 3) := by decide +kernel
theorem d_248_29 : xcode 248 29 = some (.if_icmp .le 7, 3) := by decide +kernel
theorem d_248_32 : xcode 248 32 = some (.ldc2_w 166, 3) := by decide +kernel
theorem d_248_35 : xcode 248 35 = some (.lreturn, 1) := by decide +kernel
theorem d_248_36 : xcode 248 36 = some (.aload_n 0, 1) := by decide +kernel
theorem d_248_37 : xcode 248 37 = some (.aload_n 0, 1) := by decide +kernel
theorem d_248_38 : xcode 248 38 = some (.getfield 13, 3) := by decide +kernel
theorem d_248_41 : xcode 248 41 = some (.iload_n 1, 1) := by decide +kernel
theorem d_248_42 : xcode 248 42 = some (.iconst 1, 1) := by decide +kernel
theorem d_248_43 : xcode 248 43 = some (.iadd, 1) := by decide +kernel
theorem d_248_44 : xcode 248 44 = some (.iload_n 1, 1) := by decide +kernel
theorem d_248_45 : xcode 248 45 = some (.invokevirtual 103, 3) := by decide +kernel
theorem d_248_48 : xcode 248 48 = some (.aload_n 0, 1) := by decide +kernel
theorem d_248_49 : xcode 248 49 = some (.aload_n 0, 1) := by decide +kernel
theorem d_248_50 : xcode 248 50 = some (.getfield 81, 3) := by decide +kernel
theorem d_248_53 : xcode 248 53 = some (.iconst 0, 1) := by decide +kernel
theorem d_248_54 : xcode 248 54 = some (.aload_n 0, 1) := by decide +kernel
theorem d_248_55 : xcode 248 55 = some (.getfield 107, 3) := by decide +kernel
theorem d_248_58 : xcode 248 58 = some (.aload_n 0, 1) := by decide +kernel
theorem d_248_59 : xcode 248 59 = some (.getfield 111, 3) := by decide +kernel
theorem d_248_62 : xcode 248 62 = some (.ldc2_w 125, 3) := by decide +kernel
theorem d_248_65 : xcode 248 65 = some (.invokevirtual 134, 3) := by decide +kernel
theorem d_248_68 : xcode 248 68 = some (.aload_n 0, 1) := by decide +kernel
theorem d_248_69 : xcode 248 69 = some (.getfield 81, 3) := by decide +kernel
theorem d_248_72 : xcode 248 72 = some (.iload_n 2, 1) := by decide +kernel
theorem d_248_73 : xcode 248 73 = some (.laload, 1) := by decide +kernel
theorem d_248_74 : xcode 248 74 = some (.lreturn, 1) := by decide +kernel
theorem d_249_0 : xcode 249 0 = some (.aload_n 0, 1) := by decide +kernel
theorem d_249_1 : xcode 249 1 = some (.iconst 0, 1) := by decide +kernel
theorem d_249_2 : xcode 249 2 = some (.putfield 118, 3) := by decide +kernel
theorem d_249_5 : xcode 249 5 = some (.iload_n 1, 1) := by decide +kernel
theorem d_249_6 : xcode 249 6 = some (.iconst 0, 1) := by decide +kernel
theorem d_249_7 : xcode 249 7 = some (.iconst 1, 1) := by decide +kernel
theorem d_249_8 : xcode 249 8 = some (.invokestatic 137, 3) := by decide +kernel
theorem d_249_11 : xcode 249 11 = some (.ifCond .ne 5, 3) := by decide +kernel
theorem d_249_14 : xcode 249 14 = some (.iconst (-1), 1) := by decide +kernel
theorem d_249_15 : xcode 249 15 = some (.ireturn, 1) := by decide +kernel
theorem d_249_16 : xcode 249 16 = some (.bipush (-2), 2) := by decide +kernel
theorem d_249_18 : xcode 249 18 = some (.istore_n 2, 1) := by decide +kernel
theorem d_249_19 : xcode 249 19 = some (.iconst 0, 1) := by decide +kernel
theorem d_249_20 : xcode 249 20 = some (.istore_n 3, 1) := by decide +kernel
theorem d_249_21 : xcode 249 21 = some (.iconst 1, 1) := by decide +kernel
theorem d_249_22 : xcode 249 22 = some (.istore 4, 2) := by decide +kernel
theorem d_249_24 : xcode 249 24 = some (.iload 4, 2) := by decide +kernel
theorem d_249_26 : xcode 249 26 = some (.aload_n 0, 1) := by decide +kernel
theorem d_249_27 : xcode 249 27 = some (.getfield 20, 3) := by decide +kernel
theorem d_249_30 : xcode 249 30 = some (.if_icmp .gt 35, 3) := by decide +kernel
theorem d_249_33 : xcode 249 33 = some (.aload_n 0, 1) := by decide +kernel
theorem d_249_34 : xcode 249 34 = some (.iload 4, 2) := by decide +kernel
theorem d_249_36 : xcode 249 36 = some (.invokevirtual 231, 3) := by decide +kernel
theorem d_249_39 : xcode 249 39 = some (.ifCond .ne 6, 3) := by decide +kernel
theorem d_249_42 : xcode 249 42 = some (.goto 17, 3) := by decide +kernel
theorem d_249_45 : xcode 249 45 = some (.iload_n 2, 1) := by decide +kernel
theorem d_249_46 : xcode 249 46 = some (.ifCond .ge 8, 3) := by decide +kernel
theorem d_249_49 : xcode 249 49 = some (.iload 4, 2) := by decide +kernel
theorem d_249_51 : xcode 249 51 = some (.goto 4, 3) := by decide +kernel
theorem d_249_54 : xcode 249 54 = some (.iload_n 2, 1) := by decide +kernel
theorem d_249_55 : xcode 249 55 = some (.istore_n 2, 1) := by decide +kernel
theorem d_249_56 : xcode 249 56 = some (.iinc 3 1, 3) := by decide +kernel
theorem d_249_59 : xcode 249 59 = some (.iinc 4 1, 3) := by decide +kernel
theorem d_249_62 : xcode 249 62 = some (.goto (-38), 3) := by decide +kernel
theorem d_249_65 : xcode 249 65 = some (.iload_n 1, 1) := by decide +kernel
theorem d_249_66 : xcode 249 66 = some (.ifCond .ne 7, 3) := by decide +kernel
theorem d_249_69 : xcode 249 69 = some (.iload_n 2, 1) := by decide +kernel
theorem d_249_70 : xcode 249 70 = some (.goto 4, 3) := by decide +kernel
theorem d_249_73 : xcode 249 73 = some (.iload_n 3, 1) := by decide +kernel
theorem d_249_74 : xcode 249 74 = some (.ireturn, 1) := by decide +kernel
theorem d_250_0 : xcode 250 0 = some (.aload_n 0, 1) := by decide +kernel
theorem d_250_1 : xcode 250 1 = some (.iconst 0, 1) := by decide +kernel
theorem d_250_2 : xcode 250 2 = some (.putfield 118, 3) := by decide +kernel
theorem d_250_5 : xcode 250 5 = some (.aload_n 0, 1) := by decide +kernel
theorem d_250_6 : xcode 250 6 = some (.iload_n 1, 1) := by decide +kernel
theorem d_250_7 : xcode 250 7 = some (.invokevirtual 185, 3) := by decide +kernel
theorem d_250_10 : xcode 250 10 = some (.ifCond .eq 23, 3) := by decide +kernel
theorem d_250_13 : xcode 250 13 = some (.iload_n 2, 1) := by decide +kernel
theorem d_250_14 : xcode 250 14 = some (.iconst 0, 1) := by decide +kernel
theorem d_250_15 : xcode 250 15 = some (.iconst 2, 1) := by decide +kernel
theorem d_250_16 : xcode 250 16 = some (.invokestatic 137, 3) := by decide +kernel
theorem d_250_19 : xcode 250 19 = some (.ifCond .eq 14, 3) := by decide +kernel
theorem d_250_22 : xcode 250 22 = some (.iload_n 3, 1) := by decide +kernel
theorem d_250_23 : xcode 250 23 = some (.iconst 0, 1) := by decide +kernel
theorem d_250_24 : xcode 250 24 = some (.iload_n 1, 1) := by decide +kernel
theorem d_250_25 : xcode 250 25 = some (.iconst 2, 1) := by decide +kernel
theorem d_250_26 : xcode 250 26 = some (.isub, 1) := by decide +kernel
theorem d_250_27 : xcode 250 27 = some (.invokestatic 137, 3) := by decide +kernel
theorem d_250_30 : xcode 250 30 = some (.ifCond .ne 5, 3) := by decide +kernel
theorem d_250_33 : xcode 250 33 = some (.iconst (-1), 1) := by decide +kernel
theorem d_250_34 : xcode 250 34 = some (.ireturn, 1) := by decide +kernel
theorem d_250_35 : xcode 250 35 = some (.aload_n 0, 1) := by decide +kernel
theorem d_250_36 : xcode 250 36 = some (.iload_n 1, 1) := by decide +kernel
theorem d_250_37 : xcode 250 37 = some (.iload_n 2, 1) := by decide +kernel
theorem d_250_38 : xcode 250 38 = some (.invokevirtual 271, 3) := by decide +kernel
theorem d_250_41 : xcode 250 41 = some (.aload_n 0, 1) := by decide +kernel
theorem d_250_42 : xcode 250 42 = some (.getfield 48, 3) := by decide +kernel
theorem d_250_45 : xcode 250 45 = some (.iload_n 3, 1) := by decide +kernel
theorem d_250_46 : xcode 250 46 = some (.iaload, 1) := by decide +kernel
theorem d_250_47 : xcode 250 47 = some (.ireturn, 1) := by decide +kernel
theorem d_251_0 : xcode 251 0 = some (.iload_n 2, 1) := by decide +kernel
theorem d_251_1 : xcode 251 1 = some (.ifCond .ne 11, 3) := by decide +kernel
theorem d_251_4 : xcode 251 4 = some (.aload_n 0, 1) := by decide +kernel
theorem d_251_5 : xcode 251 5 = some (.iload_n 1, 1) := by decide +kernel
theorem d_251_6 : xcode 251 6 = some (.invokevirtual 257, 3) := by decide +kernel
theorem d_251_9 : xcode 251 9 = some (.goto 79, 3) := by decide +kernel
theorem d_251_12 : xcode 251 12 = some (.iload_n 2, 1) := by decide +kernel
theorem d_251_13 : xcode 251 13 = some (.iconst 1, 1) := by decide +kernel
theorem d_251_14 : xcode 251 14 = some (.if_icmp .ne 11, 3) := by decide +kernel
theorem d_251_17 : xcode 251 17 = some (.aload_n 0, 1) := by decide +kernel
theorem d_251_18 : xcode 251 18 = some (.iload_n 1, 1) := by decide +kernel
theorem d_251_19 : xcode 251 19 = some (.invokevirtual 261, 3) := by decide +kernel
theorem d_251_22 : xcode 251 22 = some (.goto 66, 3) := by decide +kernel
theorem d_251_25 : xcode 251 25 = some (.iconst 0, 1) := by decide +kernel
theorem d_251_26 : xcode 251 26 = some (.istore_n 3, 1) := by decide +kernel
theorem d_251_27 : xcode 251 27 = some (.iload_n 3, 1) := by decide +kernel
theorem d_251_28 : xcode 251 28 = some (.iload_n 1, 1) := by decide +kernel
theorem d_251_29 : xcode 251 29 = some (.iconst 2, 1) := by decide +kernel
theorem d_251_30 : xcode 251 30 = some (.isub, 1) := by decide +kernel
theorem d_251_31 : xcode 251 31 = some (.if_icmp .gt 57, 3) := by decide +kernel
theorem d_251_34 : xcode 251 34 = some (.aload_n 0, 1) := by decide +kernel
theorem d_251_35 : xcode 251 35 = some (.getfield 48, 3) := by decide +kernel
theorem d_251_38 : xcode 251 38 = some (.iload_n 3, 1) := by decide +kernel
theorem d_251_39 : xcode 251 39 = some (.iload_n 3, 1) := by decide +kernel
theorem d_251_40 : xcode 251 40 = some (.ifCond .ne 7, 3) := by decide +kernel
theorem d_251_43 : xcode 251 43 = some (.iconst 1, 1) := by decide +kernel
theorem d_251_44 : xcode 251 44 = some (.goto 37, 3) := by decide +kernel
theorem d_251_47 : xcode 251 47 = some (.iload_n 3, 1) := by decide +kernel
theorem d_251_48 : xcode 251 48 = some (.iconst 1, 1) := by decide +kernel
theorem d_251_49 : xcode 251 49 = some (.if_icmp .ne 11, 3) := by decide +kernel
theorem d_251_52 : xcode 251 52 = some (.iload_n 1, 1) := by decide +kernel
theorem d_251_53 : xcode 251 53 = some (.iconst 1, 1) := by decide +kernel
theorem d_251_54 : xcode 251 54 = some (.isub, 1) := by decide +kernel
theorem d_251_55 : xcode 251 55 = some (.iconst 2, 1) := by decide +kernel
theorem d_251_56 : xcode 251 56 = some (.idiv, 1) := by decide +kernel
theorem d_251_57 : xcode 251 57 = some (.goto 24, 3) := by decide +kernel
theorem d_251_60 : xcode 251 60 = some (.iload_n 3, 1) := by decide +kernel
theorem d_251_61 : xcode 251 61 = some (.iconst 2, 1) := by decide +kernel
theorem d_251_62 : xcode 251 62 = some (.irem, 1) := by decide +kernel
theorem d_251_63 : xcode 251 63 = some (.iconst 1, 1) := by decide +kernel
theorem d_251_64 : xcode 251 64 = some (.if_icmp .ne 7, 3) := by decide +kernel
theorem d_251_67 : xcode 251 67 = some (.iconst 0, 1) := by decide +kernel
theorem d_251_68 : xcode 251 68 = some (.goto 13, 3) := by decide +kernel
theorem d_251_71 : xcode 251 71 = some (.iload_n 3, 1) := by decide +kernel
theorem d_251_72 : xcode 251 72 = some (.iload_n 1, 1) := by decide +kernel
theorem d_251_73 : xcode 251 73 = some (.iload_n 1, 1) := by decide +kernel
theorem d_251_74 : xcode 251 74 = some (.iload_n 1, 1) := by decide +kernel
theorem d_251_75 : xcode 251 75 = some (.imul, 1) := by decide +kernel
theorem d_251_76 : xcode 251 76 = some (.i2l, 1) := by decide +kernel
theorem d_251_77 : xcode 251 77 = some (.invokestatic 264, 3) := by decide +kernel
theorem d_251_80 : xcode 251 80 = some (.l2i, 1) := by decide +kernel
theorem d_251_81 : xcode 251 81 = some (.iastore, 1) := by decide +kernel
theorem d_251_82 : xcode 251 82 = some (.iinc 3 1, 3) := by decide +kernel
theorem d_251_85 : xcode 251 85 = some (.goto (-58), 3) := by decide +kernel
theorem d_251_88 : xcode 251 88 = some (.return_, 1) := by decide +kernel
theorem d_252_0 : xcode 252 0 = some (.aload_n 0, 1) := by decide +kernel
theorem d_252_1 : xcode 252 1 = some (.iload_n 1, 1) := by decide +kernel
