theorem dX11_init_0 : decode cX11_init 0 = .ok (.aload_n 0, 1) := by decide +kernel
theorem dX11_init_1 : decode cX11_init 1 = .ok (.invokespecial 7, 3) := by decide +kernel
theorem dX11_init_4 : decode cX11_init 4 = .ok (.aload_n 0, 1) := by decide +kernel
theorem dX11_init_5 : decode cX11_init 5 = .ok (.sipush 2000, 3) := by decide +kernel
theorem dX11_init_8 : decode cX11_init 8 = .ok (.newarray .byte, 2) := by decide +kernel
theorem dX11_init_10 : decode cX11_init 10 = .ok (.putfield 13, 3) := by decide +kernel
theorem dX11_init_13 : decode cX11_init 13 = .ok (.aload_n 0, 1) := by decide +kernel
theorem dX11_init_14 : decode cX11_init 14 = .ok (.sipush 2000, 3) := by decide +kernel
theorem dX11_init_17 : decode cX11_init 17 = .ok (.newarray .byte, 2) := by decide +kernel
theorem dX11_init_19 : decode cX11_init 19 = .ok (.putfield 17, 3) := by decide +kernel
theorem dX11_init_22 : decode cX11_init 22 = .ok (.aload_n 0, 1) := by decide +kernel
theorem dX11_init_23 : decode cX11_init 23 = .ok (.sipush 403, 3) := by decide +kernel
theorem dX11_init_26 : decode cX11_init 26 = .ok (.newarray .int, 2) := by decide +kernel
theorem dX11_init_28 : decode cX11_init 28 = .ok (.putfield 20, 3) := by decide +kernel
theorem dX11_init_31 : decode cX11_init 31 = .ok (.aload_n 0, 1) := by decide +kernel
theorem dX11_init_32 : decode cX11_init 32 = .ok (.sipush 403, 3) := by decide +kernel
theorem dX11_init_35 : decode cX11_init 35 = .ok (.newarray .int, 2) := by decide +kernel
theorem dX11_init_37 : decode cX11_init 37 = .ok (.putfield 24, 3) := by decide +kernel
theorem dX11_init_40 : decode cX11_init 40 = .ok (.aload_n 0, 1) := by decide +kernel
theorem dX11_init_41 : decode cX11_init 41 = .ok (.sipush 403, 3) := by decide +kernel
theorem dX11_init_44 : decode cX11_init 44 = .ok (.newarray .int, 2) := by decide +kernel
theorem dX11_init_46 : decode cX11_init 46 = .ok (.putfield 27, 3) := by decide +kernel
theorem dX11_init_49 : decode cX11_init 49 = .ok (.aload_n 0, 1) := by decide +kernel
theorem dX11_init_50 : decode cX11_init 50 = .ok (.sipush 403, 3) := by decide +kernel
theorem dX11_init_53 : decode cX11_init 53 = .ok (.newarray .long, 2) := by decide +kernel
theorem dX11_init_55 : decode cX11_init 55 = .ok (.putfield 30, 3) := by decide +kernel
theorem dX11_init_58 : decode cX11_init 58 = .ok (.aload_n 0, 1) := by decide +kernel
theorem dX11_init_59 : decode cX11_init 59 = .ok (.bipush 17, 2) := by decide +kernel
theorem dX11_init_61 : decode cX11_init 61 = .ok (.newarray .long, 2) := by decide +kernel
theorem dX11_init_63 : decode cX11_init 63 = .ok (.putfield 34, 3) := by decide +kernel
theorem dX11_init_66 : decode cX11_init 66 = .ok (.aload_n 0, 1) := by decide +kernel
theorem dX11_init_67 : decode cX11_init 67 = .ok (.iconst (-1), 1) := by decide +kernel
theorem dX11_init_68 : decode cX11_init 68 = .ok (.putfield 37, 3) := by decide +kernel
theorem dX11_init_71 : decode cX11_init 71 = .ok (.aload_n 0, 1) := by decide +kernel
theorem dX11_init_72 : decode cX11_init 72 = .ok (.bipush 8, 2) := by decide +kernel
theorem dX11_init_74 : decode cX11_init 74 = .ok (.newarray .long, 2) := by decide +kernel
theorem dX11_init_76 : decode cX11_init 76 = .ok (.putfield 40, 3) := by decide +kernel
theorem dX11_init_79 : decode cX11_init 79 = .ok (.aload_n 0, 1) := by decide +kernel
theorem dX11_init_80 : decode cX11_init 80 = .ok (.iconst 2, 1) := by decide +kernel
theorem dX11_init_81 : decode cX11_init 81 = .ok (.newarray .int, 2) := by decide +kernel
theorem dX11_init_83 : decode cX11_init 83 = .ok (.putfield 43, 3) := by decide +kernel
theorem dX11_init_86 : decode cX11_init 86 = .ok (.aload_n 0, 1) := by decide +kernel
theorem dX11_init_87 : decode cX11_init 87 = .ok (.iconst 2, 1) := by decide +kernel
theorem dX11_init_88 : decode cX11_init 88 = .ok (.newarray .int, 2) := by decide +kernel
theorem dX11_init_90 : decode cX11_init 90 = .ok (.putfield 46, 3) := by decide +kernel
theorem dX11_init_93 : decode cX11_init 93 = .ok (.aload_n 0, 1) := by decide +kernel
theorem dX11_init_94 : decode cX11_init 94 = .ok (.iconst 2, 1) := by decide +kernel
theorem dX11_init_95 : decode cX11_init 95 = .ok (.newarray .int, 2) := by decide +kernel
theorem dX11_init_97 : decode cX11_init 97 = .ok (.putfield 49, 3) := by decide +kernel
theorem dX11_init_100 : decode cX11_init 100 = .ok (.aload_n 0, 1) := by decide +kernel
theorem dX11_init_101 : decode cX11_init 101 = .ok (.sipush 192, 3) := by decide +kernel
theorem dX11_init_104 : decode cX11_init 104 = .ok (.newarray .int, 2) := by decide +kernel
theorem dX11_init_106 : decode cX11_init 106 = .ok (.putfield 52, 3) := by decide +kernel
theorem dX11_init_109 : decode cX11_init 109 = .ok (.aload_n 0, 1) := by decide +kernel
theorem dX11_init_110 : decode cX11_init 110 = .ok (.bipush 16, 2) := by decide +kernel
theorem dX11_init_112 : decode cX11_init 112 = .ok (.newarray .int, 2) := by decide +kernel
theorem dX11_init_114 : decode cX11_init 114 = .ok (.putfield 55, 3) := by decide +kernel
theorem dX11_init_117 : decode cX11_init 117 = .ok (.aload_n 0, 1) := by decide +kernel
theorem dX11_init_118 : decode cX11_init 118 = .ok (.iconst 2, 1) := by decide +kernel
theorem dX11_init_119 : decode cX11_init 119 = .ok (.newarray .int, 2) := by decide +kernel
theorem dX11_init_121 : decode cX11_init 121 = .ok (.putfield 58, 3) := by decide +kernel
theorem dX11_init_124 : decode cX11_init 124 = .ok (.aload_n 0, 1) := by decide +kernel
theorem dX11_init_125 : decode cX11_init 125 = .ok (.iconst 2, 1) := by decide +kernel
theorem dX11_init_126 : decode cX11_init 126 = .ok (.newarray .int, 2) := by decide +kernel
theorem dX11_init_128 : decode cX11_init 128 = .ok (.putfield 61, 3) := by decide +kernel
theorem dX11_init_131 : decode cX11_init 131 = .ok (.aload_n 0, 1) := by decide +kernel
theorem dX11_init_132 : decode cX11_init 132 = .ok (.bipush 16, 2) := by decide +kernel
theorem dX11_init_134 : decode cX11_init 134 = .ok (.newarray .int, 2) := by decide +kernel
theorem dX11_init_136 : decode cX11_init 136 = .ok (.putfield 64, 3) := by decide +kernel
theorem dX11_init_139 : decode cX11_init 139 = .ok (.aload_n 0, 1) := by decide +kernel
theorem dX11_init_140 : decode cX11_init 140 = .ok (.bipush 16, 2) := by decide +kernel
theorem dX11_init_142 : decode cX11_init 142 = .ok (.newarray .int, 2) := by decide +kernel
theorem dX11_init_144 : decode cX11_init 144 = .ok (.putfield 67, 3) := by decide +kernel
theorem dX11_init_147 : decode cX11_init 147 = .ok (.aload_n 0, 1) := by decide +kernel
theorem dX11_init_148 : decode cX11_init 148 = .ok (.bipush 16, 2) := by decide +kernel
theorem dX11_init_150 : decode cX11_init 150 = .ok (.newarray .int, 2) := by decide +kernel
theorem dX11_init_152 : decode cX11_init 152 = .ok (.putfield 70, 3) := by decide +kernel
theorem dX11_init_155 : decode cX11_init 155 = .ok (.aload_n 0, 1) := by decide +kernel
theorem dX11_init_156 : decode cX11_init 156 = .ok (.bipush 16, 2) := by decide +kernel
theorem dX11_init_158 : decode cX11_init 158 = .ok (.newarray .int, 2) := by decide +kernel
theorem dX11_init_160 : decode cX11_init 160 = .ok (.putfield 73, 3) := by decide +kernel
theorem dX11_init_163 : decode cX11_init 163 = .ok (.aload_n 0, 1) := by decide +kernel
theorem dX11_init_164 : decode cX11_init 164 = .ok (.iconst 2, 1) := by decide +kernel
theorem dX11_init_165 : decode cX11_init 165 = .ok (.newarray .int, 2) := by decide +kernel
theorem dX11_init_167 : decode cX11_init 167 = .ok (.putfield 76, 3) := by decide +kernel
theorem dX11_init_170 : decode cX11_init 170 = .ok (.aload_n 0, 1) := by decide +kernel
theorem dX11_init_171 : decode cX11_init 171 = .ok (.bipush 16, 2) := by decide +kernel
theorem dX11_init_173 : decode cX11_init 173 = .ok (.newarray .int, 2) := by decide +kernel
theorem dX11_init_175 : decode cX11_init 175 = .ok (.putfield 79, 3) := by decide +kernel
theorem dX11_init_178 : decode cX11_init 178 = .ok (.aload_n 0, 1) := by decide +kernel
theorem dX11_init_179 : decode cX11_init 179 = .ok (.bipush 16, 2) := by decide +kernel
theorem dX11_init_181 : decode cX11_init 181 = .ok (.newarray .int, 2) := by decide +kernel
theorem dX11_init_183 : decode cX11_init 183 = .ok (.putfield 82, 3) := by decide +kernel
theorem dX11_init_186 : decode cX11_init 186 = .ok (.aload_n 0, 1) := by decide +kernel
theorem dX11_init_187 : decode cX11_init 187 = .ok (.iconst 4, 1) := by decide +kernel
theorem dX11_init_188 : decode cX11_init 188 = .ok (.newarray .int, 2) := by decide +kernel
theorem dX11_init_190 : decode cX11_init 190 = .ok (.putfield 85, 3) := by decide +kernel
theorem dX11_init_193 : decode cX11_init 193 = .ok (.aload_n 0, 1) := by decide +kernel
theorem dX11_init_194 : decode cX11_init 194 = .ok (.iconst 4, 1) := by decide +kernel
theorem dX11_init_195 : decode cX11_init 195 = .ok (.newarray .int, 2) := by decide +kernel
theorem dX11_init_197 : decode cX11_init 197 = .ok (.putfield 88, 3) := by decide +kernel
theorem dX11_init_200 : decode cX11_init 200 = .ok (.aload_n 0, 1) := by decide +kernel
theorem dX11_init_201 : decode cX11_init 201 = .ok (.sipush 260, 3) := by decide +kernel
theorem dX11_init_204 : decode cX11_init 204 = .ok (.newarray .boolean, 2) := by decide +kernel
theorem dX11_init_206 : decode cX11_init 206 = .ok (.putfield 91, 3) := by decide +kernel
theorem dX11_init_209 : decode cX11_init 209 = .ok (.aload_n 0, 1) := by decide +kernel
theorem dX11_init_210 : decode cX11_init 210 = .ok (.sipush 260, 3) := by decide +kernel
theorem dX11_init_213 : decode cX11_init 213 = .ok (.newarray .int, 2) := by decide +kernel
theorem dX11_init_215 : decode cX11_init 215 = .ok (.putfield 95, 3) := by decide +kernel
theorem dX11_init_218 : decode cX11_init 218 = .ok (.aload_n 0, 1) := by decide +kernel
theorem dX11_init_219 : decode cX11_init 219 = .ok (.sipush 260, 3) := by decide +kernel
theorem dX11_init_222 : decode cX11_init 222 = .ok (.newarray .int, 2) := by decide +kernel
theorem dX11_init_224 : decode cX11_init 224 = .ok (.putfield 98, 3) := by decide +kernel
theorem dX11_init_227 : decode cX11_init 227 = .ok (.aload_n 0, 1) := by decide +kernel
theorem dX11_init_228 : decode cX11_init 228 = .ok (.sipush 260, 3) := by decide +kernel
theorem dX11_init_231 : decode cX11_init 231 = .ok (.newarray .int, 2) := by decide +kernel
theorem dX11_init_233 : decode cX11_init 233 = .ok (.putfield 101, 3) := by decide +kernel
theorem dX11_init_236 : decode cX11_init 236 = .ok (.aload_n 0, 1) := by decide +kernel
theorem dX11_init_237 : decode cX11_init 237 = .ok (.sipush 260, 3) := by decide +kernel
theorem dX11_init_240 : decode cX11_init 240 = .ok (.newarray .int, 2) := by decide +kernel
theorem dX11_init_242 : decode cX11_init 242 = .ok (.putfield 104, 3) := by decide +kernel
theorem dX11_init_245 : decode cX11_init 245 = .ok (.aload_n 0, 1) := by decide +kernel
theorem dX11_init_246 : decode cX11_init 246 = .ok (.sipush 840, 3) := by decide +kernel
theorem dX11_init_249 : decode cX11_init 249 = .ok (.newarray .int, 2) := by decide +kernel
theorem dX11_init_251 : decode cX11_init 251 = .ok (.putfield 107, 3) := by decide +kernel
theorem dX11_init_254 : decode cX11_init 254 = .ok (.aload_n 0, 1) := by decide +kernel
theorem dX11_init_255 : decode cX11_init 255 = .ok (.sipush 840, 3) := by decide +kernel
theorem dX11_init_258 : decode cX11_init 258 = .ok (.newarray .int, 2) := by decide +kernel
theorem dX11_init_260 : decode cX11_init 260 = .ok (.putfield 110, 3) := by decide +kernel
theorem dX11_init_263 : decode cX11_init 263 = .ok (.aload_n 0, 1) := by decide +kernel
theorem dX11_init_264 : decode cX11_init 264 = .ok (.bipush 64, 2) := by decide +kernel
theorem dX11_init_266 : decode cX11_init 266 = .ok (.newarray .int, 2) := by decide +kernel
theorem dX11_init_268 : decode cX11_init 268 = .ok (.putfield 113, 3) := by decide +kernel
theorem dX11_init_271 : decode cX11_init 271 = .ok (.aload_n 0, 1) := by decide +kernel
theorem dX11_init_272 : decode cX11_init 272 = .ok (.bipush 6, 2) := by decide +kernel
theorem dX11_init_274 : decode cX11_init 274 = .ok (.newarray .int, 2) := by decide +kernel
theorem dX11_init_276 : decode cX11_init 276 = .ok (.putfield 116, 3) := by decide +kernel
theorem dX11_init_279 : decode cX11_init 279 = .ok (.aload_n 0, 1) := by decide +kernel
theorem dX11_init_280 : decode cX11_init 280 = .ok (.sipush 400, 3) := by decide +kernel
theorem dX11_init_283 : decode cX11_init 283 = .ok (.newarray .int, 2) := by decide +kernel
theorem dX11_init_285 : decode cX11_init 285 = .ok (.putfield 119, 3) := by decide +kernel
theorem dX11_init_288 : decode cX11_init 288 = .ok (.aload_n 0, 1) := by decide +kernel
theorem dX11_init_289 : decode cX11_init 289 = .ok (.sipush 250, 3) := by decide +kernel
theorem dX11_init_292 : decode cX11_init 292 = .ok (.newarray .int, 2) := by decide +kernel
theorem dX11_init_294 : decode cX11_init 294 = .ok (.putfield 122, 3) := by decide +kernel
theorem dX11_init_297 : decode cX11_init 297 = .ok (.aload_n 0, 1) := by decide +kernel
theorem dX11_init_298 : decode cX11_init 298 = .ok (.sipush 250, 3) := by decide +kernel
theorem dX11_init_301 : decode cX11_init 301 = .ok (.newarray .int, 2) := by decide +kernel
theorem dX11_init_303 : decode cX11_init 303 = .ok (.putfield 125, 3) := by decide +kernel
theorem dX11_init_306 : decode cX11_init 306 = .ok (.aload_n 0, 1) := by decide +kernel
theorem dX11_init_307 : decode cX11_init 307 = .ok (.bipush 96, 2) := by decide +kernel
theorem dX11_init_309 : decode cX11_init 309 = .ok (.newarray .int, 2) := by decide +kernel
theorem dX11_init_311 : decode cX11_init 311 = .ok (.putfield 128, 3) := by decide +kernel
theorem dX11_init_314 : decode cX11_init 314 = .ok (.aload_n 0, 1) := by decide +kernel
theorem dX11_init_315 : decode cX11_init 315 = .ok (.sipush 6250, 3) := by decide +kernel
theorem dX11_init_318 : decode cX11_init 318 = .ok (.newarray .int, 2) := by decide +kernel
theorem dX11_init_320 : decode cX11_init 320 = .ok (.putfield 131, 3) := by decide +kernel
theorem dX11_init_323 : decode cX11_init 323 = .ok (.aload_n 0, 1) := by decide +kernel
theorem dX11_init_324 : decode cX11_init 324 = .ok (.bipush 96, 2) := by decide +kernel
theorem dX11_init_326 : decode cX11_init 326 = .ok (.newarray .boolean, 2) := by decide +kernel
theorem dX11_init_328 : decode cX11_init 328 = .ok (.putfield 134, 3) := by decide +kernel
theorem dX11_init_331 : decode cX11_init 331 = .ok (.aload_n 0, 1) := by decide +kernel
theorem dX11_init_332 : decode cX11_init 332 = .ok (.bipush 96, 2) := by decide +kernel
theorem dX11_init_334 : decode cX11_init 334 = .ok (.newarray .int, 2) := by decide +kernel
theorem dX11_init_336 : decode cX11_init 336 = .ok (.putfield 137, 3) := by decide +kernel
theorem dX11_init_339 : decode cX11_init 339 = .ok (.aload_n 0, 1) := by decide +kernel
theorem dX11_init_340 : decode cX11_init 340 = .ok (.bipush 97, 2) := by decide +kernel
theorem dX11_init_342 : decode cX11_init 342 = .ok (.newarray .int, 2) := by decide +kernel
theorem dX11_init_344 : decode cX11_init 344 = .ok (.putfield 140, 3) := by decide +kernel
theorem dX11_init_347 : decode cX11_init 347 = .ok (.aload_n 0, 1) := by decide +kernel
theorem dX11_init_348 : decode cX11_init 348 = .ok (.bipush 96, 2) := by decide +kernel
theorem dX11_init_350 : decode cX11_init 350 = .ok (.newarray .int, 2) := by decide +kernel
theorem dX11_init_352 : decode cX11_init 352 = .ok (.putfield 143, 3) := by decide +kernel
theorem dX11_init_355 : decode cX11_init 355 = .ok (.aload_n 0, 1) := by decide +kernel
theorem dX11_init_356 : decode cX11_init 356 = .ok (.sipush 900, 3) := by decide +kernel
theorem dX11_init_359 : decode cX11_init 359 = .ok (.newarray .int, 2) := by decide +kernel
theorem dX11_init_361 : decode cX11_init 361 = .ok (.putfield 146, 3) := by decide +kernel
theorem dX11_init_364 : decode cX11_init 364 = .ok (.aload_n 0, 1) := by decide +kernel
theorem dX11_init_365 : decode cX11_init 365 = .ok (.bipush 8, 2) := by decide +kernel
theorem dX11_init_367 : decode cX11_init 367 = .ok (.newarray .int, 2) := by decide +kernel
theorem dX11_init_369 : decode cX11_init 369 = .ok (.putfield 149, 3) := by decide +kernel
theorem dX11_init_372 : decode cX11_init 372 = .ok (.aload_n 0, 1) := by decide +kernel
theorem dX11_init_373 : decode cX11_init 373 = .ok (.bipush 8, 2) := by decide +kernel
theorem dX11_init_375 : decode cX11_init 375 = .ok (.newarray .int, 2) := by decide +kernel
theorem dX11_init_377 : decode cX11_init 377 = .ok (.putfield 152, 3) := by decide +kernel
theorem dX11_init_380 : decode cX11_init 380 = .ok (.aload_n 0, 1) := by decide +kernel
theorem dX11_init_381 : decode cX11_init 381 = .ok (.bipush 11, 2) := by decide +kernel
theorem dX11_init_383 : decode cX11_init 383 = .ok (.newarray .int, 2) := by decide +kernel
theorem dX11_init_385 : decode cX11_init 385 = .ok (.putfield 155, 3) := by decide +kernel
theorem dX11_init_388 : decode cX11_init 388 = .ok (.aload_n 0, 1) := by decide +kernel
theorem dX11_init_389 : decode cX11_init 389 = .ok (.bipush 8, 2) := by decide +kernel
theorem dX11_init_391 : decode cX11_init 391 = .ok (.newarray .int, 2) := by decide +kernel
theorem dX11_init_393 : decode cX11_init 393 = .ok (.putfield 158, 3) := by decide +kernel
theorem dX11_init_396 : decode cX11_init 396 = .ok (.aload_n 0, 1) := by decide +kernel
theorem dX11_init_397 : decode cX11_init 397 = .ok (.bipush 96, 2) := by decide +kernel
theorem dX11_init_399 : decode cX11_init 399 = .ok (.newarray .boolean, 2) := by decide +kernel
theorem dX11_init_401 : decode cX11_init 401 = .ok (.putfield 161, 3) := by decide +kernel
theorem dX11_init_404 : decode cX11_init 404 = .ok (.aload_n 0, 1) := by decide +kernel
theorem dX11_init_405 : decode cX11_init 405 = .ok (.bipush 96, 2) := by decide +kernel
theorem dX11_init_407 : decode cX11_init 407 = .ok (.newarray .boolean, 2) := by decide +kernel
theorem dX11_init_409 : decode cX11_init 409 = .ok (.putfield 164, 3) := by decide +kernel
theorem dX11_init_412 : decode cX11_init 412 = .ok (.aload_n 0, 1) := by decide +kernel
theorem dX11_init_413 : decode cX11_init 413 = .ok (.sipush 9216, 3) := by decide +kernel
theorem dX11_init_416 : decode cX11_init 416 = .ok (.newarray .boolean, 2) := by decide +kernel
theorem dX11_init_418 : decode cX11_init 418 = .ok (.putfield 167, 3) := by decide +kernel
theorem dX11_init_421 : decode cX11_init 421 = .ok (.aload_n 0, 1) := by decide +kernel
theorem dX11_init_422 : decode cX11_init 422 = .ok (.bipush 96, 2) := by decide +kernel
theorem dX11_init_424 : decode cX11_init 424 = .ok (.newarray .boolean, 2) := by decide +kernel
theorem dX11_init_426 : decode cX11_init 426 = .ok (.putfield 170, 3) := by decide +kernel
theorem dX11_init_429 : decode cX11_init 429 = .ok (.aload_n 0, 1) := by decide +kernel
theorem dX11_init_430 : decode cX11_init 430 = .ok (.sipush 192, 3) := by decide +kernel
theorem dX11_init_433 : decode cX11_init 433 = .ok (.newarray .int, 2) := by decide +kernel
theorem dX11_init_435 : decode cX11_init 435 = .ok (.putfield 173, 3) := by decide +kernel
theorem dX11_init_438 : decode cX11_init 438 = .ok (.aload_n 0, 1) := by decide +kernel
theorem dX11_init_439 : decode cX11_init 439 = .ok (.sipush 192, 3) := by decide +kernel
theorem dX11_init_442 : decode cX11_init 442 = .ok (.newarray .int, 2) := by decide +kernel
theorem dX11_init_444 : decode cX11_init 444 = .ok (.putfield 176, 3) := by decide +kernel
theorem dX11_init_447 : decode cX11_init 447 = .ok (.aload_n 0, 1) := by decide +kernel
theorem dX11_init_448 : decode cX11_init 448 = .ok (.bipush 20, 2) := by decide +kernel
theorem dX11_init_450 : decode cX11_init 450 = .ok (.newarray .int, 2) := by decide +kernel
theorem dX11_init_452 : decode cX11_init 452 = .ok (.putfield 179, 3) := by decide +kernel
theorem dX11_init_455 : decode cX11_init 455 = .ok (.aload_n 0, 1) := by decide +kernel
theorem dX11_init_456 : decode cX11_init 456 = .ok (.bipush 20, 2) := by decide +kernel
theorem dX11_init_458 : decode cX11_init 458 = .ok (.newarray .int, 2) := by decide +kernel
theorem dX11_init_460 : decode cX11_init 460 = .ok (.putfield 182, 3) := by decide +kernel
theorem dX11_init_463 : decode cX11_init 463 = .ok (.aload_n 0, 1) := by decide +kernel
theorem dX11_init_464 : decode cX11_init 464 = .ok (.iconst 3, 1) := by decide +kernel
theorem dX11_init_465 : decode cX11_init 465 = .ok (.newarray .boolean, 2) := by decide +kernel
theorem dX11_init_467 : decode cX11_init 467 = .ok (.putfield 185, 3) := by decide +kernel
theorem dX11_init_470 : decode cX11_init 470 = .ok (.aload_n 0, 1) := by decide +kernel
theorem dX11_init_471 : decode cX11_init 471 = .ok (.sipush 750, 3) := by decide +kernel
theorem dX11_init_474 : decode cX11_init 474 = .ok (.newarray .int, 2) := by decide +kernel
theorem dX11_init_476 : decode cX11_init 476 = .ok (.putfield 188, 3) := by decide +kernel
theorem dX11_init_479 : decode cX11_init 479 = .ok (.aload_n 0, 1) := by decide +kernel
theorem dX11_init_480 : decode cX11_init 480 = .ok (.iconst 0, 1) := by decide +kernel
theorem dX11_init_481 : decode cX11_init 481 = .ok (.invokevirtual 191, 3) := by decide +kernel
theorem dX11_init_484 : decode cX11_init 484 = .ok (.aload_n 0, 1) := by decide +kernel
theorem dX11_init_485 : decode cX11_init 485 = .ok (.getfield 34, 3) := by decide +kernel
theorem dX11_init_488 : decode cX11_init 488 = .ok (.iconst 0, 1) := by decide +kernel
theorem dX11_init_489 : decode cX11_init 489 = .ok (.bipush 114, 2) := by decide +kernel
theorem dX11_init_491 : decode cX11_init 491 = .ok (.bipush 105, 2) := by decide +kernel
theorem dX11_init_493 : decode cX11_init 493 = .ok (.bipush 118, 2) := by decide +kernel
theorem dX11_init_495 : decode cX11_init 495 = .ok (.bipush 101, 2) := by decide +kernel
theorem dX11_init_497 : decode cX11_init 497 = .ok (.bipush 114, 2) := by decide +kernel
theorem dX11_init_499 : decode cX11_init 499 = .ok (.iconst 0, 1) := by decide +kernel
theorem dX11_init_500 : decode cX11_init 500 = .ok (.iconst 0, 1) := by decide +kernel
theorem dX11_init_501 : decode cX11_init 501 = .ok (.invokestatic 195, 3) := by decide +kernel
theorem dX11_init_504 : decode cX11_init 504 = .ok (.lastore, 1) := by decide +kernel
theorem dX11_init_505 : decode cX11_init 505 = .ok (.aload_n 0, 1) := by decide +kernel
theorem dX11_init_506 : decode cX11_init 506 = .ok (.getfield 34, 3) := by decide +kernel
theorem dX11_init_509 : decode cX11_init 509 = .ok (.iconst 1, 1) := by decide +kernel
theorem dX11_init_510 : decode cX11_init 510 = .ok (.bipush 100, 2) := by decide +kernel
theorem dX11_init_512 : decode cX11_init 512 = .ok (.bipush 101, 2) := by decide +kernel
theorem dX11_init_514 : decode cX11_init 514 = .ok (.bipush 112, 2) := by decide +kernel
theorem dX11_init_516 : decode cX11_init 516 = .ok (.bipush 116, 2) := by decide +kernel
theorem dX11_init_518 : decode cX11_init 518 = .ok (.bipush 104, 2) := by decide +kernel
theorem dX11_init_520 : decode cX11_init 520 = .ok (.iconst 0, 1) := by decide +kernel
theorem dX11_init_521 : decode cX11_init 521 = .ok (.iconst 0, 1) := by decide +kernel
theorem dX11_init_522 : decode cX11_init 522 = .ok (.invokestatic 195, 3) := by decide +kernel
theorem dX11_init_525 : decode cX11_init 525 = .ok (.lastore, 1) := by decide +kernel
theorem dX11_init_526 : decode cX11_init 526 = .ok (.aload_n 0, 1) := by decide +kernel
theorem dX11_init_527 : decode cX11_init 527 = .ok (.getfield 34, 3) := by decide +kernel
theorem dX11_init_530 : decode cX11_init 530 = .ok (.iconst 2, 1) := by decide +kernel
theorem dX11_init_531 : decode cX11_init 531 = .ok (.bipush 102, 2) := by decide +kernel
theorem dX11_init_533 : decode cX11_init 533 = .ok (.bipush 108, 2) := by decide +kernel
theorem dX11_init_535 : decode cX11_init 535 = .ok (.bipush 111, 2) := by decide +kernel
theorem dX11_init_537 : decode cX11_init 537 = .ok (.bipush 119, 2) := by decide +kernel
theorem dX11_init_539 : decode cX11_init 539 = .ok (.iconst 0, 1) := by decide +kernel
theorem dX11_init_540 : decode cX11_init 540 = .ok (.iconst 0, 1) := by decide +kernel
theorem dX11_init_541 : decode cX11_init 541 = .ok (.iconst 0, 1) := by decide +kernel
theorem dX11_init_542 : decode cX11_init 542 = .ok (.invokestatic 195, 3) := by decide +kernel
theorem dX11_init_545 : decode cX11_init 545 = .ok (.lastore, 1) := by decide +kernel
theorem dX11_init_546 : decode cX11_init 546 = .ok (.aload_n 0, 1) := by decide +kernel
theorem dX11_init_547 : decode cX11_init 547 = .ok (.getfield 34, 3) := by decide +kernel
theorem dX11_init_550 : decode cX11_init 550 = .ok (.iconst 3, 1) := by decide +kernel
theorem dX11_init_551 : decode cX11_init 551 = .ok (.bipush 108, 2) := by decide +kernel
theorem dX11_init_553 : decode cX11_init 553 = .ok (.bipush 101, 2) := by decide +kernel
theorem dX11_init_555 : decode cX11_init 555 = .ok (.bipush 97, 2) := by decide +kernel
theorem dX11_init_557 : decode cX11_init 557 = .ok (.bipush 112, 2) := by decide +kernel
theorem dX11_init_559 : decode cX11_init 559 = .ok (.iconst 0, 1) := by decide +kernel
theorem dX11_init_560 : decode cX11_init 560 = .ok (.iconst 0, 1) := by decide +kernel
theorem dX11_init_561 : decode cX11_init 561 = .ok (.iconst 0, 1) := by decide +kernel
theorem dX11_init_562 : decode cX11_init 562 = .ok (.invokestatic 195, 3) := by decide +kernel
theorem dX11_init_565 : decode cX11_init 565 = .ok (.lastore, 1) := by decide +kernel
theorem dX11_init_566 : decode cX11_init 566 = .ok (.aload_n 0, 1) := by decide +kernel
theorem dX11_init_567 : decode cX11_init 567 = .ok (.getfield 34, 3) := by decide +kernel
theorem dX11_init_570 : decode cX11_init 570 = .ok (.iconst 4, 1) := by decide +kernel
theorem dX11_init_571 : decode cX11_init 571 = .ok (.bipush 108, 2) := by decide +kernel
theorem dX11_init_573 : decode cX11_init 573 = .ok (.bipush 101, 2) := by decide +kernel
theorem dX11_init_575 : decode cX11_init 575 = .ok (.bipush 97, 2) := by decide +kernel
theorem dX11_init_577 : decode cX11_init 577 = .ok (.bipush 118, 2) := by decide +kernel
theorem dX11_init_579 : decode cX11_init 579 = .ok (.bipush 101, 2) := by decide +kernel
theorem dX11_init_581 : decode cX11_init 581 = .ok (.bipush 114, 2) := by decide +kernel
theorem dX11_init_583 : decode cX11_init 583 = .ok (.iconst 0, 1) := by decide +kernel
theorem dX11_init_584 : decode cX11_init 584 = .ok (.invokestatic 195, 3) := by decide +kernel
theorem dX11_init_587 : decode cX11_init 587 = .ok (.lastore, 1) := by decide +kernel
theorem dX11_init_588 : decode cX11_init 588 = .ok (.aload_n 0, 1) := by decide +kernel
theorem dX11_init_589 : decode cX11_init 589 = .ok (.getfield 34, 3) := by decide +kernel
theorem dX11_init_592 : decode cX11_init 592 = .ok (.iconst 5, 1) := by decide +kernel
theorem dX11_init_593 : decode cX11_init 593 = .ok (.bipush 102, 2) := by decide +kernel
theorem dX11_init_595 : decode cX11_init 595 = .ok (.bipush 108, 2) := by decide +kernel
theorem dX11_init_597 : decode cX11_init 597 = .ok (.bipush 111, 2) := by decide +kernel
theorem dX11_init_599 : decode cX11_init 599 = .ok (.bipush 111, 2) := by decide +kernel
theorem dX11_init_601 : decode cX11_init 601 = .ok (.bipush 100, 2) := by decide +kernel
theorem dX11_init_603 : decode cX11_init 603 = .ok (.iconst 0, 1) := by decide +kernel
theorem dX11_init_604 : decode cX11_init 604 = .ok (.iconst 0, 1) := by decide +kernel
theorem dX11_init_605 : decode cX11_init 605 = .ok (.invokestatic 195, 3) := by decide +kernel
theorem dX11_init_608 : decode cX11_init 608 = .ok (.lastore, 1) := by decide +kernel
theorem dX11_init_609 : decode cX11_init 609 = .ok (.aload_n 0, 1) := by decide +kernel
theorem dX11_init_610 : decode cX11_init 610 = .ok (.getfield 34, 3) := by decide +kernel
theorem dX11_init_613 : decode cX11_init 613 = .ok (.bipush 6, 2) := by decide +kernel
theorem dX11_init_615 : decode cX11_init 615 = .ok (.bipush 99, 2) := by decide +kernel
theorem dX11_init_617 : decode cX11_init 617 = .ok (.bipush 97, 2) := by decide +kernel
theorem dX11_init_619 : decode cX11_init 619 = .ok (.bipush 114, 2) := by decide +kernel
theorem dX11_init_621 : decode cX11_init 621 = .ok (.bipush 114, 2) := by decide +kernel
theorem dX11_init_623 : decode cX11_init 623 = .ok (.bipush 121, 2) := by decide +kernel
theorem dX11_init_625 : decode cX11_init 625 = .ok (.iconst 0, 1) := by decide +kernel
theorem dX11_init_626 : decode cX11_init 626 = .ok (.iconst 0, 1) := by decide +kernel
theorem dX11_init_627 : decode cX11_init 627 = .ok (.invokestatic 195, 3) := by decide +kernel
theorem dX11_init_630 : decode cX11_init 630 = .ok (.lastore, 1) := by decide +kernel
theorem dX11_init_631 : decode cX11_init 631 = .ok (.aload_n 0, 1) := by decide +kernel
theorem dX11_init_632 : decode cX11_init 632 = .ok (.getfield 34, 3) := by decide +kernel
theorem dX11_init_635 : decode cX11_init 635 = .ok (.bipush 7, 2) := by decide +kernel
theorem dX11_init_637 : decode cX11_init 637 = .ok (.bipush 115, 2) := by decide +kernel
theorem dX11_init_639 : decode cX11_init 639 = .ok (.bipush 108, 2) := by decide +kernel
theorem dX11_init_641 : decode cX11_init 641 = .ok (.bipush 105, 2) := by decide +kernel
theorem dX11_init_643 : decode cX11_init 643 = .ok (.bipush 112, 2) := by decide +kernel
theorem dX11_init_645 : decode cX11_init 645 = .ok (.iconst 0, 1) := by decide +kernel
theorem dX11_init_646 : decode cX11_init 646 = .ok (.iconst 0, 1) := by decide +kernel
theorem dX11_init_647 : decode cX11_init 647 = .ok (.iconst 0, 1) := by decide +kernel
theorem dX11_init_648 : decode cX11_init 648 = .ok (.invokestatic 195, 3) := by decide +kernel
theorem dX11_init_651 : decode cX11_init 651 = .ok (.lastore, 1) := by decide +kernel
theorem dX11_init_652 : decode cX11_init 652 = .ok (.aload_n 0, 1) := by decide +kernel
theorem dX11_init_653 : decode cX11_init 653 = .ok (.getfield 34, 3) := by decide +kernel
theorem dX11_init_656 : decode cX11_init 656 = .ok (.bipush 8, 2) := by decide +kernel
theorem dX11_init_658 : decode cX11_init 658 = .ok (.bipush 105, 2) := by decide +kernel
theorem dX11_init_660 : decode cX11_init 660 = .ok (.bipush 102, 2) := by decide +kernel
theorem dX11_init_662 : decode cX11_init 662 = .ok (.iconst 0, 1) := by decide +kernel
theorem dX11_init_663 : decode cX11_init 663 = .ok (.iconst 0, 1) := by decide +kernel
theorem dX11_init_664 : decode cX11_init 664 = .ok (.iconst 0, 1) := by decide +kernel
theorem dX11_init_665 : decode cX11_init 665 = .ok (.iconst 0, 1) := by decide +kernel
theorem dX11_init_666 : decode cX11_init 666 = .ok (.iconst 0, 1) := by decide +kernel
theorem dX11_init_667 : decode cX11_init 667 = .ok (.invokestatic 195, 3) := by decide +kernel
theorem dX11_init_670 : decode cX11_init 670 = .ok (.lastore, 1) := by decide +kernel
theorem dX11_init_671 : decode cX11_init 671 = .ok (.aload_n 0, 1) := by decide +kernel
theorem dX11_init_672 : decode cX11_init 672 = .ok (.getfield 34, 3) := by decide +kernel
theorem dX11_init_675 : decode cX11_init 675 = .ok (.bipush 9, 2) := by decide +kernel
theorem dX11_init_677 : decode cX11_init 677 = .ok (.bipush 116, 2) := by decide +kernel
theorem dX11_init_679 : decode cX11_init 679 = .ok (.bipush 104, 2) := by decide +kernel
theorem dX11_init_681 : decode cX11_init 681 = .ok (.bipush 101, 2) := by decide +kernel
theorem dX11_init_683 : decode cX11_init 683 = .ok (.bipush 110, 2) := by decide +kernel
theorem dX11_init_685 : decode cX11_init 685 = .ok (.iconst 0, 1) := by decide +kernel
theorem dX11_init_686 : decode cX11_init 686 = .ok (.iconst 0, 1) := by decide +kernel
theorem dX11_init_687 : decode cX11_init 687 = .ok (.iconst 0, 1) := by decide +kernel
theorem dX11_init_688 : decode cX11_init 688 = .ok (.invokestatic 195, 3) := by decide +kernel
theorem dX11_init_691 : decode cX11_init 691 = .ok (.lastore, 1) := by decide +kernel
theorem dX11_init_692 : decode cX11_init 692 = .ok (.aload_n 0, 1) := by decide +kernel
theorem dX11_init_693 : decode cX11_init 693 = .ok (.getfield 34, 3) := by decide +kernel
theorem dX11_init_696 : decode cX11_init 696 = .ok (.bipush 10, 2) := by decide +kernel
theorem dX11_init_698 : decode cX11_init 698 = .ok (.bipush 101, 2) := by decide +kernel
theorem dX11_init_700 : decode cX11_init 700 = .ok (.bipush 108, 2) := by decide +kernel
theorem dX11_init_702 : decode cX11_init 702 = .ok (.bipush 115, 2) := by decide +kernel
theorem dX11_init_704 : decode cX11_init 704 = .ok (.bipush 101, 2) := by decide +kernel
theorem dX11_init_706 : decode cX11_init 706 = .ok (.iconst 0, 1) := by decide +kernel
theorem dX11_init_707 : decode cX11_init 707 = .ok (.iconst 0, 1) := by decide +kernel
theorem dX11_init_708 : decode cX11_init 708 = .ok (.iconst 0, 1) := by decide +kernel
theorem dX11_init_709 : decode cX11_init 709 = .ok (.invokestatic 195, 3) := by decide +kernel
theorem dX11_init_712 : decode cX11_init 712 = .ok (.lastore, 1) := by decide +kernel
theorem dX11_init_713 : decode cX11_init 713 = .ok (.aload_n 0, 1) := by decide +kernel
theorem dX11_init_714 : decode cX11_init 714 = .ok (.getfield 34, 3) := by decide +kernel
theorem dX11_init_717 : decode cX11_init 717 = .ok (.bipush 11, 2) := by decide +kernel
theorem dX11_init_719 : decode cX11_init 719 = .ok (.bipush 115, 2) := by decide +kernel
theorem dX11_init_721 : decode cX11_init 721 = .ok (.bipush 116, 2) := by decide +kernel
theorem dX11_init_723 : decode cX11_init 723 = .ok (.bipush 111, 2) := by decide +kernel
theorem dX11_init_725 : decode cX11_init 725 = .ok (.bipush 110, 2) := by decide +kernel
theorem dX11_init_727 : decode cX11_init 727 = .ok (.bipush 101, 2) := by decide +kernel
theorem dX11_init_729 : decode cX11_init 729 = .ok (.bipush 115, 2) := by decide +kernel
theorem dX11_init_731 : decode cX11_init 731 = .ok (.iconst 0, 1) := by decide +kernel
theorem dX11_init_732 : decode cX11_init 732 = .ok (.invokestatic 195, 3) := by decide +kernel
theorem dX11_init_735 : decode cX11_init 735 = .ok (.lastore, 1) := by decide +kernel
theorem dX11_init_736 : decode cX11_init 736 = .ok (.aload_n 0, 1) := by decide +kernel
theorem dX11_init_737 : decode cX11_init 737 = .ok (.getfield 34, 3) := by decide +kernel
theorem dX11_init_740 : decode cX11_init 740 = .ok (.bipush 12, 2) := by decide +kernel
theorem dX11_init_742 : decode cX11_init 742 = .ok (.bipush 100, 2) := by decide +kernel
theorem dX11_init_744 : decode cX11_init 744 = .ok (.bipush 101, 2) := by decide +kernel
theorem dX11_init_746 : decode cX11_init 746 = .ok (.bipush 101, 2) := by decide +kernel
theorem dX11_init_748 : decode cX11_init 748 = .ok (.bipush 112, 2) := by decide +kernel
theorem dX11_init_750 : decode cX11_init 750 = .ok (.iconst 0, 1) := by decide +kernel
theorem dX11_init_751 : decode cX11_init 751 = .ok (.iconst 0, 1) := by decide +kernel
theorem dX11_init_752 : decode cX11_init 752 = .ok (.iconst 0, 1) := by decide +kernel
theorem dX11_init_753 : decode cX11_init 753 = .ok (.invokestatic 195, 3) := by decide +kernel
theorem dX11_init_756 : decode cX11_init 756 = .ok (.lastore, 1) := by decide +kernel
theorem dX11_init_757 : decode cX11_init 757 = .ok (.aload_n 0, 1) := by decide +kernel
theorem dX11_init_758 : decode cX11_init 758 = .ok (.getfield 34, 3) := by decide +kernel
theorem dX11_init_761 : decode cX11_init 761 = .ok (.bipush 13, 2) := by decide +kernel
theorem dX11_init_763 : decode cX11_init 763 = .ok (.bipush 102, 2) := by decide +kernel
theorem dX11_init_765 : decode cX11_init 765 = .ok (.bipush 111, 2) := by decide +kernel
theorem dX11_init_767 : decode cX11_init 767 = .ok (.bipush 114, 2) := by decide +kernel
theorem dX11_init_769 : decode cX11_init 769 = .ok (.bipush 99, 2) := by decide +kernel
theorem dX11_init_771 : decode cX11_init 771 = .ok (.bipush 101, 2) := by decide +kernel
theorem dX11_init_773 : decode cX11_init 773 = .ok (.iconst 0, 1) := by decide +kernel
theorem dX11_init_774 : decode cX11_init 774 = .ok (.iconst 0, 1) := by decide +kernel
theorem dX11_init_775 : decode cX11_init 775 = .ok (.invokestatic 195, 3) := by decide +kernel
theorem dX11_init_778 : decode cX11_init 778 = .ok (.lastore, 1) := by decide +kernel
theorem dX11_init_779 : decode cX11_init 779 = .ok (.aload_n 0, 1) := by decide +kernel
theorem dX11_init_780 : decode cX11_init 780 = .ok (.getfield 34, 3) := by decide +kernel
theorem dX11_init_783 : decode cX11_init 783 = .ok (.bipush 14, 2) := by decide +kernel
theorem dX11_init_785 : decode cX11_init 785 = .ok (.bipush 109, 2) := by decide +kernel
theorem dX11_init_787 : decode cX11_init 787 = .ok (.bipush 111, 2) := by decide +kernel
theorem dX11_init_789 : decode cX11_init 789 = .ok (.bipush 115, 2) := by decide +kernel
theorem dX11_init_791 : decode cX11_init 791 = .ok (.bipush 115, 2) := by decide +kernel
theorem dX11_init_793 : decode cX11_init 793 = .ok (.iconst 0, 1) := by decide +kernel
theorem dX11_init_794 : decode cX11_init 794 = .ok (.iconst 0, 1) := by decide +kernel
theorem dX11_init_795 : decode cX11_init 795 = .ok (.iconst 0, 1) := by decide +kernel
theorem dX11_init_796 : decode cX11_init 796 = .ok (.invokestatic 195, 3) := by decide +kernel
theorem dX11_init_799 : decode cX11_init 799 = .ok (.lastore, 1) := by decide +kernel
theorem dX11_init_800 : decode cX11_init 800 = .ok (.aload_n 0, 1) := by decide +kernel
theorem dX11_init_801 : decode cX11_init 801 = .ok (.getfield 34, 3) := by decide +kernel
theorem dX11_init_804 : decode cX11_init 804 = .ok (.bipush 15, 2) := by decide +kernel
theorem dX11_init_806 : decode cX11_init 806 = .ok (.bipush 97, 2) := by decide +kernel
theorem dX11_init_808 : decode cX11_init 808 = .ok (.bipush 99, 2) := by decide +kernel
theorem dX11_init_810 : decode cX11_init 810 = .ok (.bipush 114, 2) := by decide +kernel
theorem dX11_init_812 : decode cX11_init 812 = .ok (.bipush 111, 2) := by decide +kernel
theorem dX11_init_814 : decode cX11_init 814 = .ok (.bipush 115, 2) := by decide +kernel
theorem dX11_init_816 : decode cX11_init 816 = .ok (.bipush 115, 2) := by decide +kernel
theorem dX11_init_818 : decode cX11_init 818 = .ok (.iconst 0, 1) := by decide +kernel
theorem dX11_init_819 : decode cX11_init 819 = .ok (.invokestatic 195, 3) := by decide +kernel
theorem dX11_init_822 : decode cX11_init 822 = .ok (.lastore, 1) := by decide +kernel
theorem dX11_init_823 : decode cX11_init 823 = .ok (.aload_n 0, 1) := by decide +kernel
theorem dX11_init_824 : decode cX11_init 824 = .ok (.getfield 34, 3) := by decide +kernel
theorem dX11_init_827 : decode cX11_init 827 = .ok (.bipush 16, 2) := by decide +kernel
theorem dX11_init_829 : decode cX11_init 829 = .ok (.bipush 97, 2) := by decide +kernel
theorem dX11_init_831 : decode cX11_init 831 = .ok (.bipush 108, 2) := by decide +kernel
theorem dX11_init_833 : decode cX11_init 833 = .ok (.bipush 111, 2) := by decide +kernel
theorem dX11_init_835 : decode cX11_init 835 = .ok (.bipush 110, 2) := by decide +kernel
theorem dX11_init_837 : decode cX11_init 837 = .ok (.bipush 103, 2) := by decide +kernel
theorem dX11_init_839 : decode cX11_init 839 = .ok (.iconst 0, 1) := by decide +kernel
theorem dX11_init_840 : decode cX11_init 840 = .ok (.iconst 0, 1) := by decide +kernel
theorem dX11_init_841 : decode cX11_init 841 = .ok (.invokestatic 195, 3) := by decide +kernel
theorem dX11_init_844 : decode cX11_init 844 = .ok (.lastore, 1) := by decide +kernel
theorem dX11_init_845 : decode cX11_init 845 = .ok (.aload_n 0, 1) := by decide +kernel
theorem dX11_init_846 : decode cX11_init 846 = .ok (.invokevirtual 199, 3) := by decide +kernel
theorem dX11_init_849 : decode cX11_init 849 = .ok (.return_, 1) := by decide +kernel
theorem dX11_feed_0 : decode cX11_feed 0 = .ok (.aload_n 0, 1) := by decide +kernel
theorem dX11_feed_1 : decode cX11_feed 1 = .ok (.getfield 202, 3) := by decide +kernel
theorem dX11_feed_4 : decode cX11_feed 4 = .ok (.bipush 20, 2) := by decide +kernel
theorem dX11_feed_6 : decode cX11_feed 6 = .ok (.iadd, 1) := by decide +kernel
theorem dX11_feed_7 : decode cX11_feed 7 = .ok (.sipush 2000, 3) := by decide +kernel
theorem dX11_feed_10 : decode cX11_feed 10 = .ok (.if_icmp .le 5, 3) := by decide +kernel
theorem dX11_feed_13 : decode cX11_feed 13 = .ok (.iconst (-1), 1) := by decide +kernel
theorem dX11_feed_14 : decode cX11_feed 14 = .ok (.ireturn, 1) := by decide +kernel
theorem dX11_feed_15 : decode cX11_feed 15 = .ok (.aload_n 0, 1) := by decide +kernel
theorem dX11_feed_16 : decode cX11_feed 16 = .ok (.iload_n 1, 1) := by decide +kernel
theorem dX11_feed_17 : decode cX11_feed 17 = .ok (.invokevirtual 205, 3) := by decide +kernel
theorem dX11_feed_20 : decode cX11_feed 20 = .ok (.aload_n 0, 1) := by decide +kernel
theorem dX11_feed_21 : decode cX11_feed 21 = .ok (.iload_n 2, 1) := by decide +kernel
theorem dX11_feed_22 : decode cX11_feed 22 = .ok (.invokevirtual 205, 3) := by decide +kernel
theorem dX11_feed_25 : decode cX11_feed 25 = .ok (.aload_n 0, 1) := by decide +kernel
theorem dX11_feed_26 : decode cX11_feed 26 = .ok (.iload_n 3, 1) := by decide +kernel
theorem dX11_feed_27 : decode cX11_feed 27 = .ok (.invokevirtual 205, 3) := by decide +kernel
theorem dX11_feed_30 : decode cX11_feed 30 = .ok (.aload_n 0, 1) := by decide +kernel
theorem dX11_feed_31 : decode cX11_feed 31 = .ok (.iload 4, 2) := by decide +kernel
theorem dX11_feed_33 : decode cX11_feed 33 = .ok (.invokevirtual 205, 3) := by decide +kernel
theorem dX11_feed_36 : decode cX11_feed 36 = .ok (.aload_n 0, 1) := by decide +kernel
theorem dX11_feed_37 : decode cX11_feed 37 = .ok (.iload 5, 2) := by decide +kernel
theorem dX11_feed_39 : decode cX11_feed 39 = .ok (.invokevirtual 205, 3) := by decide +kernel
theorem dX11_feed_42 : decode cX11_feed 42 = .ok (.aload_n 0, 1) := by decide +kernel
theorem dX11_feed_43 : decode cX11_feed 43 = .ok (.getfield 202, 3) := by decide +kernel
theorem dX11_feed_46 : decode cX11_feed 46 = .ok (.ireturn, 1) := by decide +kernel
theorem dX11_put_0 : decode cX11_put 0 = .ok (.bipush 24, 2) := by decide +kernel
theorem dX11_put_2 : decode cX11_put 2 = .ok (.istore_n 2, 1) := by decide +kernel
theorem dX11_put_3 : decode cX11_put 3 = .ok (.iload_n 2, 1) := by decide +kernel
theorem dX11_put_4 : decode cX11_put 4 = .ok (.ifCond .lt 32, 3) := by decide +kernel
theorem dX11_put_7 : decode cX11_put 7 = .ok (.aload_n 0, 1) := by decide +kernel
theorem dX11_put_8 : decode cX11_put 8 = .ok (.getfield 13, 3) := by decide +kernel
theorem dX11_put_11 : decode cX11_put 11 = .ok (.aload_n 0, 1) := by decide +kernel
theorem dX11_put_12 : decode cX11_put 12 = .ok (.getfield 202, 3) := by decide +kernel
theorem dX11_put_15 : decode cX11_put 15 = .ok (.iload_n 1, 1) := by decide +kernel
theorem dX11_put_16 : decode cX11_put 16 = .ok (.iload_n 2, 1) := by decide +kernel
theorem dX11_put_17 : decode cX11_put 17 = .ok (.ishr, 1) := by decide +kernel
theorem dX11_put_18 : decode cX11_put 18 = .ok (.i2b, 1) := by decide +kernel
theorem dX11_put_19 : decode cX11_put 19 = .ok (.bastore, 1) := by decide +kernel
theorem dX11_put_20 : decode cX11_put 20 = .ok (.aload_n 0, 1) := by decide +kernel
theorem dX11_put_21 : decode cX11_put 21 = .ok (.dup, 1) := by decide +kernel
theorem dX11_put_22 : decode cX11_put 22 = .ok (.getfield 202, 3) := by decide +kernel
theorem dX11_put_25 : decode cX11_put 25 = .ok (.iconst 1, 1) := by decide +kernel
theorem dX11_put_26 : decode cX11_put 26 = .ok (.iadd, 1) := by decide +kernel
theorem dX11_put_27 : decode cX11_put 27 = .ok (.putfield 202, 3) := by decide +kernel
theorem dX11_put_30 : decode cX11_put 30 = .ok (.iinc 2 (-8), 3) := by decide +kernel
theorem dX11_put_33 : decode cX11_put 33 = .ok (.goto (-30), 3) := by decide +kernel
theorem dX11_put_36 : decode cX11_put 36 = .ok (.return_, 1) := by decide +kernel
theorem dX11_back_0 : decode cX11_back 0 = .ok (.iload_n 1, 1) := by decide +kernel
theorem dX11_back_1 : decode cX11_back 1 = .ok (.ifCond .lt 11, 3) := by decide +kernel
theorem dX11_back_4 : decode cX11_back 4 = .ok (.iload_n 1, 1) := by decide +kernel
theorem dX11_back_5 : decode cX11_back 5 = .ok (.aload_n 0, 1) := by decide +kernel
theorem dX11_back_6 : decode cX11_back 6 = .ok (.getfield 202, 3) := by decide +kernel
theorem dX11_back_9 : decode cX11_back 9 = .ok (.if_icmp .le 5, 3) := by decide +kernel
theorem dX11_back_12 : decode cX11_back 12 = .ok (.iconst (-1), 1) := by decide +kernel
theorem dX11_back_13 : decode cX11_back 13 = .ok (.ireturn, 1) := by decide +kernel
theorem dX11_back_14 : decode cX11_back 14 = .ok (.aload_n 0, 1) := by decide +kernel
theorem dX11_back_15 : decode cX11_back 15 = .ok (.dup, 1) := by decide +kernel
theorem dX11_back_16 : decode cX11_back 16 = .ok (.getfield 202, 3) := by decide +kernel
theorem dX11_back_19 : decode cX11_back 19 = .ok (.iload_n 1, 1) := by decide +kernel
theorem dX11_back_20 : decode cX11_back 20 = .ok (.isub, 1) := by decide +kernel
theorem dX11_back_21 : decode cX11_back 21 = .ok (.putfield 202, 3) := by decide +kernel
theorem dX11_back_24 : decode cX11_back 24 = .ok (.aload_n 0, 1) := by decide +kernel
theorem dX11_back_25 : decode cX11_back 25 = .ok (.getfield 202, 3) := by decide +kernel
theorem dX11_back_28 : decode cX11_back 28 = .ok (.ireturn, 1) := by decide +kernel
theorem dX11_byteAt_0 : decode cX11_byteAt 0 = .ok (.iload_n 1, 1) := by decide +kernel
theorem dX11_byteAt_1 : decode cX11_byteAt 1 = .ok (.aload_n 0, 1) := by decide +kernel
theorem dX11_byteAt_2 : decode cX11_byteAt 2 = .ok (.getfield 208, 3) := by decide +kernel
theorem dX11_byteAt_5 : decode cX11_byteAt 5 = .ok (.if_icmp .ge 16, 3) := by decide +kernel
theorem dX11_byteAt_8 : decode cX11_byteAt 8 = .ok (.aload_n 0, 1) := by decide +kernel
theorem dX11_byteAt_9 : decode cX11_byteAt 9 = .ok (.getfield 17, 3) := by decide +kernel
theorem dX11_byteAt_12 : decode cX11_byteAt 12 = .ok (.iload_n 1, 1) := by decide +kernel
theorem dX11_byteAt_13 : decode cX11_byteAt 13 = .ok (.baload, 1) := by decide +kernel
theorem dX11_byteAt_14 : decode cX11_byteAt 14 = .ok (.sipush 255, 3) := by decide +kernel
theorem dX11_byteAt_17 : decode cX11_byteAt 17 = .ok (.iand, 1) := by decide +kernel
theorem dX11_byteAt_18 : decode cX11_byteAt 18 = .ok (.goto 4, 3) := by decide +kernel
theorem dX11_byteAt_21 : decode cX11_byteAt 21 = .ok (.iconst 0, 1) := by decide +kernel
theorem dX11_byteAt_22 : decode cX11_byteAt 22 = .ok (.ireturn, 1) := by decide +kernel
theorem dX11_isDigit_0 : decode cX11_isDigit 0 = .ok (.iload_n 0, 1) := by decide +kernel
theorem dX11_isDigit_1 : decode cX11_isDigit 1 = .ok (.bipush 48, 2) := by decide +kernel
theorem dX11_isDigit_3 : decode cX11_isDigit 3 = .ok (.if_icmp .lt 13, 3) := by decide +kernel
theorem dX11_isDigit_6 : decode cX11_isDigit 6 = .ok (.iload_n 0, 1) := by decide +kernel
theorem dX11_isDigit_7 : decode cX11_isDigit 7 = .ok (.bipush 57, 2) := by decide +kernel
theorem dX11_isDigit_9 : decode cX11_isDigit 9 = .ok (.if_icmp .gt 7, 3) := by decide +kernel
theorem dX11_isDigit_12 : decode cX11_isDigit 12 = .ok (.iconst 1, 1) := by decide +kernel
theorem dX11_isDigit_13 : decode cX11_isDigit 13 = .ok (.goto 4, 3) := by decide +kernel
theorem dX11_isDigit_16 : decode cX11_isDigit 16 = .ok (.iconst 0, 1) := by decide +kernel
theorem dX11_isDigit_17 : decode cX11_isDigit 17 = .ok (.ireturn, 1) := by decide +kernel
theorem dX11_isLetter_0 : decode cX11_isLetter 0 = .ok (.iload_n 0, 1) := by decide +kernel
theorem dX11_isLetter_1 : decode cX11_isLetter 1 = .ok (.bipush 97, 2) := by decide +kernel
theorem dX11_isLetter_3 : decode cX11_isLetter 3 = .ok (.if_icmp .lt 13, 3) := by decide +kernel
theorem dX11_isLetter_6 : decode cX11_isLetter 6 = .ok (.iload_n 0, 1) := by decide +kernel
theorem dX11_isLetter_7 : decode cX11_isLetter 7 = .ok (.bipush 122, 2) := by decide +kernel
theorem dX11_isLetter_9 : decode cX11_isLetter 9 = .ok (.if_icmp .gt 7, 3) := by decide +kernel
theorem dX11_isLetter_12 : decode cX11_isLetter 12 = .ok (.iconst 1, 1) := by decide +kernel
theorem dX11_isLetter_13 : decode cX11_isLetter 13 = .ok (.goto 4, 3) := by decide +kernel
theorem dX11_isLetter_16 : decode cX11_isLetter 16 = .ok (.iconst 0, 1) := by decide +kernel
theorem dX11_isLetter_17 : decode cX11_isLetter 17 = .ok (.ireturn, 1) := by decide +kernel
theorem dX11_appends_0 : decode cX11_appends 0 = .ok (.iload_n 2, 1) := by decide +kernel
theorem dX11_appends_1 : decode cX11_appends 1 = .ok (.ifCond .ne 7, 3) := by decide +kernel
theorem dX11_appends_4 : decode cX11_appends 4 = .ok (.lload_n 0, 1) := by decide +kernel
theorem dX11_appends_5 : decode cX11_appends 5 = .ok (.goto 16, 3) := by decide +kernel
theorem dX11_appends_8 : decode cX11_appends 8 = .ok (.ldc2_w 211, 3) := by decide +kernel
theorem dX11_appends_11 : decode cX11_appends 11 = .ok (.lload_n 0, 1) := by decide +kernel
theorem dX11_appends_12 : decode cX11_appends 12 = .ok (.lmul, 1) := by decide +kernel
theorem dX11_appends_13 : decode cX11_appends 13 = .ok (.iload_n 2, 1) := by decide +kernel
theorem dX11_appends_14 : decode cX11_appends 14 = .ok (.bipush 97, 2) := by decide +kernel
theorem dX11_appends_16 : decode cX11_appends 16 = .ok (.isub, 1) := by decide +kernel
theorem dX11_appends_17 : decode cX11_appends 17 = .ok (.iconst 1, 1) := by decide +kernel
theorem dX11_appends_18 : decode cX11_appends 18 = .ok (.iadd, 1) := by decide +kernel
theorem dX11_appends_19 : decode cX11_appends 19 = .ok (.i2l, 1) := by decide +kernel
theorem dX11_appends_20 : decode cX11_appends 20 = .ok (.ladd, 1) := by decide +kernel
theorem dX11_appends_21 : decode cX11_appends 21 = .ok (.lreturn, 1) := by decide +kernel
theorem dX11_word_0 : decode cX11_word 0 = .ok (.lconst 0, 1) := by decide +kernel
theorem dX11_word_1 : decode cX11_word 1 = .ok (.iload_n 0, 1) := by decide +kernel
theorem dX11_word_2 : decode cX11_word 2 = .ok (.invokestatic 213, 3) := by decide +kernel
theorem dX11_word_5 : decode cX11_word 5 = .ok (.iload_n 1, 1) := by decide +kernel
theorem dX11_word_6 : decode cX11_word 6 = .ok (.invokestatic 213, 3) := by decide +kernel
theorem dX11_word_9 : decode cX11_word 9 = .ok (.iload_n 2, 1) := by decide +kernel
theorem dX11_word_10 : decode cX11_word 10 = .ok (.invokestatic 213, 3) := by decide +kernel
theorem dX11_word_13 : decode cX11_word 13 = .ok (.iload_n 3, 1) := by decide +kernel
theorem dX11_word_14 : decode cX11_word 14 = .ok (.invokestatic 213, 3) := by decide +kernel
theorem dX11_word_17 : decode cX11_word 17 = .ok (.iload 4, 2) := by decide +kernel
theorem dX11_word_19 : decode cX11_word 19 = .ok (.invokestatic 213, 3) := by decide +kernel
theorem dX11_word_22 : decode cX11_word 22 = .ok (.iload 5, 2) := by decide +kernel
theorem dX11_word_24 : decode cX11_word 24 = .ok (.invokestatic 213, 3) := by decide +kernel
theorem dX11_word_27 : decode cX11_word 27 = .ok (.iload 6, 2) := by decide +kernel
theorem dX11_word_29 : decode cX11_word 29 = .ok (.invokestatic 213, 3) := by decide +kernel
theorem dX11_word_32 : decode cX11_word 32 = .ok (.lreturn, 1) := by decide +kernel
theorem dX11_token_0 : decode cX11_token 0 = .ok (.aload_n 0, 1) := by decide +kernel
theorem dX11_token_1 : decode cX11_token 1 = .ok (.getfield 20, 3) := by decide +kernel
theorem dX11_token_4 : decode cX11_token 4 = .ok (.aload_n 0, 1) := by decide +kernel
theorem dX11_token_5 : decode cX11_token 5 = .ok (.getfield 217, 3) := by decide +kernel
theorem dX11_token_8 : decode cX11_token 8 = .ok (.iload_n 1, 1) := by decide +kernel
theorem dX11_token_9 : decode cX11_token 9 = .ok (.iastore, 1) := by decide +kernel
theorem dX11_token_10 : decode cX11_token 10 = .ok (.aload_n 0, 1) := by decide +kernel
theorem dX11_token_11 : decode cX11_token 11 = .ok (.getfield 24, 3) := by decide +kernel
theorem dX11_token_14 : decode cX11_token 14 = .ok (.aload_n 0, 1) := by decide +kernel
theorem dX11_token_15 : decode cX11_token 15 = .ok (.getfield 217, 3) := by decide +kernel
theorem dX11_token_18 : decode cX11_token 18 = .ok (.iload_n 2, 1) := by decide +kernel
theorem dX11_token_19 : decode cX11_token 19 = .ok (.iastore, 1) := by decide +kernel
theorem dX11_token_20 : decode cX11_token 20 = .ok (.aload_n 0, 1) := by decide +kernel
theorem dX11_token_21 : decode cX11_token 21 = .ok (.getfield 27, 3) := by decide +kernel
theorem dX11_token_24 : decode cX11_token 24 = .ok (.aload_n 0, 1) := by decide +kernel
theorem dX11_token_25 : decode cX11_token 25 = .ok (.getfield 217, 3) := by decide +kernel
theorem dX11_token_28 : decode cX11_token 28 = .ok (.iload_n 3, 1) := by decide +kernel
theorem dX11_token_29 : decode cX11_token 29 = .ok (.iastore, 1) := by decide +kernel
theorem dX11_token_30 : decode cX11_token 30 = .ok (.aload_n 0, 1) := by decide +kernel
theorem dX11_token_31 : decode cX11_token 31 = .ok (.getfield 30, 3) := by decide +kernel
theorem dX11_token_34 : decode cX11_token 34 = .ok (.aload_n 0, 1) := by decide +kernel
theorem dX11_token_35 : decode cX11_token 35 = .ok (.getfield 217, 3) := by decide +kernel
theorem dX11_token_38 : decode cX11_token 38 = .ok (.lload 4, 2) := by decide +kernel
theorem dX11_token_40 : decode cX11_token 40 = .ok (.lastore, 1) := by decide +kernel
theorem dX11_token_41 : decode cX11_token 41 = .ok (.aload_n 0, 1) := by decide +kernel
theorem dX11_token_42 : decode cX11_token 42 = .ok (.dup, 1) := by decide +kernel
theorem dX11_token_43 : decode cX11_token 43 = .ok (.getfield 217, 3) := by decide +kernel
theorem dX11_token_46 : decode cX11_token 46 = .ok (.iconst 1, 1) := by decide +kernel
theorem dX11_token_47 : decode cX11_token 47 = .ok (.iadd, 1) := by decide +kernel
theorem dX11_token_48 : decode cX11_token 48 = .ok (.putfield 217, 3) := by decide +kernel
theorem dX11_token_51 : decode cX11_token 51 = .ok (.return_, 1) := by decide +kernel
theorem dX11_cut_0 : decode cX11_cut 0 = .ok (.aload_n 0, 1) := by decide +kernel
theorem dX11_cut_1 : decode cX11_cut 1 = .ok (.iconst 0, 1) := by decide +kernel
theorem dX11_cut_2 : decode cX11_cut 2 = .ok (.putfield 217, 3) := by decide +kernel
theorem dX11_cut_5 : decode cX11_cut 5 = .ok (.iconst 0, 1) := by decide +kernel
theorem dX11_cut_6 : decode cX11_cut 6 = .ok (.istore_n 1, 1) := by decide +kernel
theorem dX11_cut_7 : decode cX11_cut 7 = .ok (.aload_n 0, 1) := by decide +kernel
theorem dX11_cut_8 : decode cX11_cut 8 = .ok (.getfield 217, 3) := by decide +kernel
theorem dX11_cut_11 : decode cX11_cut 11 = .ok (.sipush 400, 3) := by decide +kernel
theorem dX11_cut_14 : decode cX11_cut 14 = .ok (.if_icmp .gt 280, 3) := by decide +kernel
theorem dX11_cut_17 : decode cX11_cut 17 = .ok (.aload_n 0, 1) := by decide +kernel
theorem dX11_cut_18 : decode cX11_cut 18 = .ok (.iload_n 1, 1) := by decide +kernel
theorem dX11_cut_19 : decode cX11_cut 19 = .ok (.invokevirtual 220, 3) := by decide +kernel
theorem dX11_cut_22 : decode cX11_cut 22 = .ok (.istore_n 2, 1) := by decide +kernel
theorem dX11_cut_23 : decode cX11_cut 23 = .ok (.iload_n 1, 1) := by decide +kernel
theorem dX11_cut_24 : decode cX11_cut 24 = .ok (.aload_n 0, 1) := by decide +kernel
theorem dX11_cut_25 : decode cX11_cut 25 = .ok (.getfield 208, 3) := by decide +kernel
theorem dX11_cut_28 : decode cX11_cut 28 = .ok (.if_icmp .lt 15, 3) := by decide +kernel
theorem dX11_cut_31 : decode cX11_cut 31 = .ok (.aload_n 0, 1) := by decide +kernel
theorem dX11_cut_32 : decode cX11_cut 32 = .ok (.iconst 0, 1) := by decide +kernel
theorem dX11_cut_33 : decode cX11_cut 33 = .ok (.aload_n 0, 1) := by decide +kernel
theorem dX11_cut_34 : decode cX11_cut 34 = .ok (.getfield 208, 3) := by decide +kernel
theorem dX11_cut_37 : decode cX11_cut 37 = .ok (.iconst 0, 1) := by decide +kernel
theorem dX11_cut_38 : decode cX11_cut 38 = .ok (.lconst 0, 1) := by decide +kernel
theorem dX11_cut_39 : decode cX11_cut 39 = .ok (.invokevirtual 224, 3) := by decide +kernel
theorem dX11_cut_42 : decode cX11_cut 42 = .ok (.return_, 1) := by decide +kernel
theorem dX11_cut_43 : decode cX11_cut 43 = .ok (.iload_n 2, 1) := by decide +kernel
theorem dX11_cut_44 : decode cX11_cut 44 = .ok (.bipush 9, 2) := by decide +kernel
theorem dX11_cut_46 : decode cX11_cut 46 = .ok (.if_icmp .eq 21, 3) := by decide +kernel
theorem dX11_cut_49 : decode cX11_cut 49 = .ok (.iload_n 2, 1) := by decide +kernel
theorem dX11_cut_50 : decode cX11_cut 50 = .ok (.bipush 10, 2) := by decide +kernel
theorem dX11_cut_52 : decode cX11_cut 52 = .ok (.if_icmp .eq 15, 3) := by decide +kernel
theorem dX11_cut_55 : decode cX11_cut 55 = .ok (.iload_n 2, 1) := by decide +kernel
theorem dX11_cut_56 : decode cX11_cut 56 = .ok (.bipush 13, 2) := by decide +kernel
theorem dX11_cut_58 : decode cX11_cut 58 = .ok (.if_icmp .eq 9, 3) := by decide +kernel
theorem dX11_cut_61 : decode cX11_cut 61 = .ok (.iload_n 2, 1) := by decide +kernel
theorem dX11_cut_62 : decode cX11_cut 62 = .ok (.bipush 32, 2) := by decide +kernel
theorem dX11_cut_64 : decode cX11_cut 64 = .ok (.if_icmp .ne 9, 3) := by decide +kernel
theorem dX11_cut_67 : decode cX11_cut 67 = .ok (.iinc 1 1, 3) := by decide +kernel
theorem dX11_cut_70 : decode cX11_cut 70 = .ok (.goto 221, 3) := by decide +kernel
theorem dX11_cut_73 : decode cX11_cut 73 = .ok (.iload_n 2, 1) := by decide +kernel
theorem dX11_cut_74 : decode cX11_cut 74 = .ok (.invokestatic 228, 3) := by decide +kernel
theorem dX11_cut_77 : decode cX11_cut 77 = .ok (.ifCond .eq 119, 3) := by decide +kernel
theorem dX11_cut_80 : decode cX11_cut 80 = .ok (.iconst 0, 1) := by decide +kernel
theorem dX11_cut_81 : decode cX11_cut 81 = .ok (.istore_n 3, 1) := by decide +kernel
theorem dX11_cut_82 : decode cX11_cut 82 = .ok (.lconst 0, 1) := by decide +kernel
theorem dX11_cut_83 : decode cX11_cut 83 = .ok (.lstore 4, 2) := by decide +kernel
theorem dX11_cut_85 : decode cX11_cut 85 = .ok (.aload_n 0, 1) := by decide +kernel
theorem dX11_cut_86 : decode cX11_cut 86 = .ok (.iload_n 1, 1) := by decide +kernel
theorem dX11_cut_87 : decode cX11_cut 87 = .ok (.iload_n 3, 1) := by decide +kernel
theorem dX11_cut_88 : decode cX11_cut 88 = .ok (.iadd, 1) := by decide +kernel
theorem dX11_cut_89 : decode cX11_cut 89 = .ok (.invokevirtual 220, 3) := by decide +kernel
theorem dX11_cut_92 : decode cX11_cut 92 = .ok (.invokestatic 228, 3) := by decide +kernel
theorem dX11_cut_95 : decode cX11_cut 95 = .ok (.ifCond .eq 29, 3) := by decide +kernel
theorem dX11_cut_98 : decode cX11_cut 98 = .ok (.iload_n 3, 1) := by decide +kernel
theorem dX11_cut_99 : decode cX11_cut 99 = .ok (.bipush 8, 2) := by decide +kernel
theorem dX11_cut_101 : decode cX11_cut 101 = .ok (.if_icmp .ge 17, 3) := by decide +kernel
theorem dX11_cut_104 : decode cX11_cut 104 = .ok (.lload 4, 2) := by decide +kernel
theorem dX11_cut_106 : decode cX11_cut 106 = .ok (.aload_n 0, 1) := by decide +kernel
theorem dX11_cut_107 : decode cX11_cut 107 = .ok (.iload_n 1, 1) := by decide +kernel
theorem dX11_cut_108 : decode cX11_cut 108 = .ok (.iload_n 3, 1) := by decide +kernel
theorem dX11_cut_109 : decode cX11_cut 109 = .ok (.iadd, 1) := by decide +kernel
theorem dX11_cut_110 : decode cX11_cut 110 = .ok (.invokevirtual 220, 3) := by decide +kernel
theorem dX11_cut_113 : decode cX11_cut 113 = .ok (.invokestatic 213, 3) := by decide +kernel
theorem dX11_cut_116 : decode cX11_cut 116 = .ok (.lstore 4, 2) := by decide +kernel
theorem dX11_cut_118 : decode cX11_cut 118 = .ok (.iinc 3 1, 3) := by decide +kernel
theorem dX11_cut_121 : decode cX11_cut 121 = .ok (.goto (-36), 3) := by decide +kernel
theorem dX11_cut_124 : decode cX11_cut 124 = .ok (.iload_n 3, 1) := by decide +kernel
theorem dX11_cut_125 : decode cX11_cut 125 = .ok (.bipush 8, 2) := by decide +kernel
theorem dX11_cut_127 : decode cX11_cut 127 = .ok (.if_icmp .le 7, 3) := by decide +kernel
theorem dX11_cut_130 : decode cX11_cut 130 = .ok (.iconst 3, 1) := by decide +kernel
theorem dX11_cut_131 : decode cX11_cut 131 = .ok (.goto 4, 3) := by decide +kernel
theorem dX11_cut_134 : decode cX11_cut 134 = .ok (.iconst 1, 1) := by decide +kernel
theorem dX11_cut_135 : decode cX11_cut 135 = .ok (.istore 6, 2) := by decide +kernel
theorem dX11_cut_137 : decode cX11_cut 137 = .ok (.iload_n 3, 1) := by decide +kernel
theorem dX11_cut_138 : decode cX11_cut 138 = .ok (.bipush 7, 2) := by decide +kernel
theorem dX11_cut_140 : decode cX11_cut 140 = .ok (.if_icmp .gt 39, 3) := by decide +kernel
theorem dX11_cut_143 : decode cX11_cut 143 = .ok (.iconst 0, 1) := by decide +kernel
theorem dX11_cut_144 : decode cX11_cut 144 = .ok (.istore 7, 2) := by decide +kernel
theorem dX11_cut_146 : decode cX11_cut 146 = .ok (.iload 7, 2) := by decide +kernel
theorem dX11_cut_148 : decode cX11_cut 148 = .ok (.bipush 17, 2) := by decide +kernel
theorem dX11_cut_150 : decode cX11_cut 150 = .ok (.if_icmp .ge 29, 3) := by decide +kernel
theorem dX11_cut_153 : decode cX11_cut 153 = .ok (.aload_n 0, 1) := by decide +kernel
theorem dX11_cut_154 : decode cX11_cut 154 = .ok (.getfield 34, 3) := by decide +kernel
theorem dX11_cut_157 : decode cX11_cut 157 = .ok (.iload 7, 2) := by decide +kernel
theorem dX11_cut_159 : decode cX11_cut 159 = .ok (.laload, 1) := by decide +kernel
theorem dX11_cut_160 : decode cX11_cut 160 = .ok (.lload 4, 2) := by decide +kernel
theorem dX11_cut_162 : decode cX11_cut 162 = .ok (.lcmp, 1) := by decide +kernel
theorem dX11_cut_163 : decode cX11_cut 163 = .ok (.ifCond .ne 10, 3) := by decide +kernel
theorem dX11_cut_166 : decode cX11_cut 166 = .ok (.bipush 20, 2) := by decide +kernel
theorem dX11_cut_168 : decode cX11_cut 168 = .ok (.iload 7, 2) := by decide +kernel
theorem dX11_cut_170 : decode cX11_cut 170 = .ok (.iadd, 1) := by decide +kernel
theorem dX11_cut_171 : decode cX11_cut 171 = .ok (.istore 6, 2) := by decide +kernel
theorem dX11_cut_173 : decode cX11_cut 173 = .ok (.iinc 7 1, 3) := by decide +kernel
theorem dX11_cut_176 : decode cX11_cut 176 = .ok (.goto (-30), 3) := by decide +kernel
theorem dX11_cut_179 : decode cX11_cut 179 = .ok (.aload_n 0, 1) := by decide +kernel
theorem dX11_cut_180 : decode cX11_cut 180 = .ok (.iload 6, 2) := by decide +kernel
theorem dX11_cut_182 : decode cX11_cut 182 = .ok (.iload_n 1, 1) := by decide +kernel
theorem dX11_cut_183 : decode cX11_cut 183 = .ok (.iconst 0, 1) := by decide +kernel
theorem dX11_cut_184 : decode cX11_cut 184 = .ok (.lload 4, 2) := by decide +kernel
theorem dX11_cut_186 : decode cX11_cut 186 = .ok (.invokevirtual 224, 3) := by decide +kernel
theorem dX11_cut_189 : decode cX11_cut 189 = .ok (.iload_n 1, 1) := by decide +kernel
theorem dX11_cut_190 : decode cX11_cut 190 = .ok (.iload_n 3, 1) := by decide +kernel
theorem dX11_cut_191 : decode cX11_cut 191 = .ok (.iadd, 1) := by decide +kernel
theorem dX11_cut_192 : decode cX11_cut 192 = .ok (.istore_n 1, 1) := by decide +kernel
theorem dX11_cut_193 : decode cX11_cut 193 = .ok (.goto 98, 3) := by decide +kernel
theorem dX11_cut_196 : decode cX11_cut 196 = .ok (.iload_n 2, 1) := by decide +kernel
theorem dX11_cut_197 : decode cX11_cut 197 = .ok (.invokestatic 232, 3) := by decide +kernel
theorem dX11_cut_200 : decode cX11_cut 200 = .ok (.ifCond .eq 75, 3) := by decide +kernel
theorem dX11_cut_203 : decode cX11_cut 203 = .ok (.iconst 0, 1) := by decide +kernel
theorem dX11_cut_204 : decode cX11_cut 204 = .ok (.istore_n 3, 1) := by decide +kernel
theorem dX11_cut_205 : decode cX11_cut 205 = .ok (.iconst 0, 1) := by decide +kernel
theorem dX11_cut_206 : decode cX11_cut 206 = .ok (.istore 4, 2) := by decide +kernel
theorem dX11_cut_208 : decode cX11_cut 208 = .ok (.aload_n 0, 1) := by decide +kernel
theorem dX11_cut_209 : decode cX11_cut 209 = .ok (.iload_n 1, 1) := by decide +kernel
theorem dX11_cut_210 : decode cX11_cut 210 = .ok (.iload_n 3, 1) := by decide +kernel
theorem dX11_cut_211 : decode cX11_cut 211 = .ok (.iadd, 1) := by decide +kernel
theorem dX11_cut_212 : decode cX11_cut 212 = .ok (.invokevirtual 220, 3) := by decide +kernel
theorem dX11_cut_215 : decode cX11_cut 215 = .ok (.invokestatic 232, 3) := by decide +kernel
theorem dX11_cut_218 : decode cX11_cut 218 = .ok (.ifCond .eq 32, 3) := by decide +kernel
theorem dX11_cut_221 : decode cX11_cut 221 = .ok (.iload_n 3, 1) := by decide +kernel
theorem dX11_cut_222 : decode cX11_cut 222 = .ok (.iconst 4, 1) := by decide +kernel
theorem dX11_cut_223 : decode cX11_cut 223 = .ok (.if_icmp .ge 21, 3) := by decide +kernel
theorem dX11_cut_226 : decode cX11_cut 226 = .ok (.bipush 10, 2) := by decide +kernel
theorem dX11_cut_228 : decode cX11_cut 228 = .ok (.iload 4, 2) := by decide +kernel
theorem dX11_cut_230 : decode cX11_cut 230 = .ok (.imul, 1) := by decide +kernel
theorem dX11_cut_231 : decode cX11_cut 231 = .ok (.aload_n 0, 1) := by decide +kernel
theorem dX11_cut_232 : decode cX11_cut 232 = .ok (.iload_n 1, 1) := by decide +kernel
theorem dX11_cut_233 : decode cX11_cut 233 = .ok (.iload_n 3, 1) := by decide +kernel
theorem dX11_cut_234 : decode cX11_cut 234 = .ok (.iadd, 1) := by decide +kernel
theorem dX11_cut_235 : decode cX11_cut 235 = .ok (.invokevirtual 220, 3) := by decide +kernel
theorem dX11_cut_238 : decode cX11_cut 238 = .ok (.iadd, 1) := by decide +kernel
theorem dX11_cut_239 : decode cX11_cut 239 = .ok (.bipush 48, 2) := by decide +kernel
theorem dX11_cut_241 : decode cX11_cut 241 = .ok (.isub, 1) := by decide +kernel
theorem dX11_cut_242 : decode cX11_cut 242 = .ok (.istore 4, 2) := by decide +kernel
theorem dX11_cut_244 : decode cX11_cut 244 = .ok (.iinc 3 1, 3) := by decide +kernel
theorem dX11_cut_247 : decode cX11_cut 247 = .ok (.goto (-39), 3) := by decide +kernel
theorem dX11_cut_250 : decode cX11_cut 250 = .ok (.aload_n 0, 1) := by decide +kernel
theorem dX11_cut_251 : decode cX11_cut 251 = .ok (.iload_n 3, 1) := by decide +kernel
theorem dX11_cut_252 : decode cX11_cut 252 = .ok (.iconst 4, 1) := by decide +kernel
theorem dX11_cut_253 : decode cX11_cut 253 = .ok (.if_icmp .le 7, 3) := by decide +kernel
theorem dX11_cut_256 : decode cX11_cut 256 = .ok (.iconst 3, 1) := by decide +kernel
theorem dX11_cut_257 : decode cX11_cut 257 = .ok (.goto 4, 3) := by decide +kernel
theorem dX11_cut_260 : decode cX11_cut 260 = .ok (.iconst 2, 1) := by decide +kernel
theorem dX11_cut_261 : decode cX11_cut 261 = .ok (.iload_n 1, 1) := by decide +kernel
theorem dX11_cut_262 : decode cX11_cut 262 = .ok (.iload 4, 2) := by decide +kernel
theorem dX11_cut_264 : decode cX11_cut 264 = .ok (.lconst 0, 1) := by decide +kernel
theorem dX11_cut_265 : decode cX11_cut 265 = .ok (.invokevirtual 224, 3) := by decide +kernel
theorem dX11_cut_268 : decode cX11_cut 268 = .ok (.iload_n 1, 1) := by decide +kernel
theorem dX11_cut_269 : decode cX11_cut 269 = .ok (.iload_n 3, 1) := by decide +kernel
theorem dX11_cut_270 : decode cX11_cut 270 = .ok (.iadd, 1) := by decide +kernel
theorem dX11_cut_271 : decode cX11_cut 271 = .ok (.istore_n 1, 1) := by decide +kernel
theorem dX11_cut_272 : decode cX11_cut 272 = .ok (.goto 19, 3) := by decide +kernel
theorem dX11_cut_275 : decode cX11_cut 275 = .ok (.iload_n 1, 1) := by decide +kernel
theorem dX11_cut_276 : decode cX11_cut 276 = .ok (.aload_n 0, 1) := by decide +kernel
theorem dX11_cut_277 : decode cX11_cut 277 = .ok (.iload_n 1, 1) := by decide +kernel
theorem dX11_cut_278 : decode cX11_cut 278 = .ok (.iload_n 2, 1) := by decide +kernel
theorem dX11_cut_279 : decode cX11_cut 279 = .ok (.aload_n 0, 1) := by decide +kernel
theorem dX11_cut_280 : decode cX11_cut 280 = .ok (.iload_n 1, 1) := by decide +kernel
theorem dX11_cut_281 : decode cX11_cut 281 = .ok (.iconst 1, 1) := by decide +kernel
theorem dX11_cut_282 : decode cX11_cut 282 = .ok (.iadd, 1) := by decide +kernel
theorem dX11_cut_283 : decode cX11_cut 283 = .ok (.invokevirtual 220, 3) := by decide +kernel
theorem dX11_cut_286 : decode cX11_cut 286 = .ok (.invokevirtual 235, 3) := by decide +kernel
theorem dX11_cut_289 : decode cX11_cut 289 = .ok (.iadd, 1) := by decide +kernel
theorem dX11_cut_290 : decode cX11_cut 290 = .ok (.istore_n 1, 1) := by decide +kernel
theorem dX11_cut_291 : decode cX11_cut 291 = .ok (.goto (-284), 3) := by decide +kernel
theorem dX11_cut_294 : decode cX11_cut 294 = .ok (.return_, 1) := by decide +kernel
theorem dX11_sign_0 : decode cX11_sign 0 = .ok (.iload_n 2, 1) := by decide +kernel
theorem dX11_sign_1 : decode cX11_sign 1 = .ok (.bipush 59, 2) := by decide +kernel
theorem dX11_sign_3 : decode cX11_sign 3 = .ok (.if_icmp .ne 7, 3) := by decide +kernel
theorem dX11_sign_6 : decode cX11_sign 6 = .ok (.iconst 4, 1) := by decide +kernel
theorem dX11_sign_7 : decode cX11_sign 7 = .ok (.goto 36, 3) := by decide +kernel
theorem dX11_sign_10 : decode cX11_sign 10 = .ok (.iload_n 2, 1) := by decide +kernel
theorem dX11_sign_11 : decode cX11_sign 11 = .ok (.bipush 61, 2) := by decide +kernel
theorem dX11_sign_13 : decode cX11_sign 13 = .ok (.if_icmp .ne 7, 3) := by decide +kernel
theorem dX11_sign_16 : decode cX11_sign 16 = .ok (.iconst 5, 1) := by decide +kernel
theorem dX11_sign_17 : decode cX11_sign 17 = .ok (.goto 26, 3) := by decide +kernel
theorem dX11_sign_20 : decode cX11_sign 20 = .ok (.iload_n 2, 1) := by decide +kernel
theorem dX11_sign_21 : decode cX11_sign 21 = .ok (.bipush 40, 2) := by decide +kernel
theorem dX11_sign_23 : decode cX11_sign 23 = .ok (.if_icmp .ne 8, 3) := by decide +kernel
theorem dX11_sign_26 : decode cX11_sign 26 = .ok (.bipush 6, 2) := by decide +kernel
theorem dX11_sign_28 : decode cX11_sign 28 = .ok (.goto 15, 3) := by decide +kernel
theorem dX11_sign_31 : decode cX11_sign 31 = .ok (.iload_n 2, 1) := by decide +kernel
theorem dX11_sign_32 : decode cX11_sign 32 = .ok (.bipush 41, 2) := by decide +kernel
theorem dX11_sign_34 : decode cX11_sign 34 = .ok (.if_icmp .ne 8, 3) := by decide +kernel
theorem dX11_sign_37 : decode cX11_sign 37 = .ok (.bipush 7, 2) := by decide +kernel
theorem dX11_sign_39 : decode cX11_sign 39 = .ok (.goto 4, 3) := by decide +kernel
theorem dX11_sign_42 : decode cX11_sign 42 = .ok (.iconst 3, 1) := by decide +kernel
theorem dX11_sign_43 : decode cX11_sign 43 = .ok (.istore 4, 2) := by decide +kernel
theorem dX11_sign_45 : decode cX11_sign 45 = .ok (.iload_n 2, 1) := by decide +kernel
theorem dX11_sign_46 : decode cX11_sign 46 = .ok (.bipush 43, 2) := by decide +kernel
theorem dX11_sign_48 : decode cX11_sign 48 = .ok (.if_icmp .ne 7, 3) := by decide +kernel
theorem dX11_sign_51 : decode cX11_sign 51 = .ok (.bipush 8, 2) := by decide +kernel
theorem dX11_sign_53 : decode cX11_sign 53 = .ok (.istore 4, 2) := by decide +kernel
theorem dX11_sign_55 : decode cX11_sign 55 = .ok (.iload_n 2, 1) := by decide +kernel
theorem dX11_sign_56 : decode cX11_sign 56 = .ok (.bipush 45, 2) := by decide +kernel
theorem dX11_sign_58 : decode cX11_sign 58 = .ok (.if_icmp .ne 7, 3) := by decide +kernel
theorem dX11_sign_61 : decode cX11_sign 61 = .ok (.bipush 9, 2) := by decide +kernel
theorem dX11_sign_63 : decode cX11_sign 63 = .ok (.istore 4, 2) := by decide +kernel
theorem dX11_sign_65 : decode cX11_sign 65 = .ok (.iload_n 2, 1) := by decide +kernel
theorem dX11_sign_66 : decode cX11_sign 66 = .ok (.bipush 42, 2) := by decide +kernel
theorem dX11_sign_68 : decode cX11_sign 68 = .ok (.if_icmp .ne 7, 3) := by decide +kernel
theorem dX11_sign_71 : decode cX11_sign 71 = .ok (.bipush 10, 2) := by decide +kernel
theorem dX11_sign_73 : decode cX11_sign 73 = .ok (.istore 4, 2) := by decide +kernel
theorem dX11_sign_75 : decode cX11_sign 75 = .ok (.iload_n 2, 1) := by decide +kernel
theorem dX11_sign_76 : decode cX11_sign 76 = .ok (.bipush 47, 2) := by decide +kernel
theorem dX11_sign_78 : decode cX11_sign 78 = .ok (.if_icmp .ne 7, 3) := by decide +kernel
theorem dX11_sign_81 : decode cX11_sign 81 = .ok (.bipush 15, 2) := by decide +kernel
theorem dX11_sign_83 : decode cX11_sign 83 = .ok (.istore 4, 2) := by decide +kernel
theorem dX11_sign_85 : decode cX11_sign 85 = .ok (.iload_n 2, 1) := by decide +kernel
theorem dX11_sign_86 : decode cX11_sign 86 = .ok (.bipush 60, 2) := by decide +kernel
theorem dX11_sign_88 : decode cX11_sign 88 = .ok (.if_icmp .ne 7, 3) := by decide +kernel
theorem dX11_sign_91 : decode cX11_sign 91 = .ok (.bipush 13, 2) := by decide +kernel
theorem dX11_sign_93 : decode cX11_sign 93 = .ok (.istore 4, 2) := by decide +kernel
theorem dX11_sign_95 : decode cX11_sign 95 = .ok (.aload_n 0, 1) := by decide +kernel
theorem dX11_sign_96 : decode cX11_sign 96 = .ok (.iload 4, 2) := by decide +kernel
theorem dX11_sign_98 : decode cX11_sign 98 = .ok (.iload_n 1, 1) := by decide +kernel
theorem dX11_sign_99 : decode cX11_sign 99 = .ok (.iconst 0, 1) := by decide +kernel
theorem dX11_sign_100 : decode cX11_sign 100 = .ok (.lconst 0, 1) := by decide +kernel
theorem dX11_sign_101 : decode cX11_sign 101 = .ok (.invokevirtual 224, 3) := by decide +kernel
theorem dX11_sign_104 : decode cX11_sign 104 = .ok (.iconst 1, 1) := by decide +kernel
theorem dX11_sign_105 : decode cX11_sign 105 = .ok (.ireturn, 1) := by decide +kernel
theorem dX11_is_0 : decode cX11_is 0 = .ok (.aload_n 0, 1) := by decide +kernel
theorem dX11_is_1 : decode cX11_is 1 = .ok (.getfield 239, 3) := by decide +kernel
theorem dX11_is_4 : decode cX11_is 4 = .ok (.ifCond .ne 20, 3) := by decide +kernel
theorem dX11_is_7 : decode cX11_is 7 = .ok (.aload_n 0, 1) := by decide +kernel
theorem dX11_is_8 : decode cX11_is 8 = .ok (.getfield 20, 3) := by decide +kernel
theorem dX11_is_11 : decode cX11_is 11 = .ok (.aload_n 0, 1) := by decide +kernel
theorem dX11_is_12 : decode cX11_is 12 = .ok (.getfield 242, 3) := by decide +kernel
theorem dX11_is_15 : decode cX11_is 15 = .ok (.iaload, 1) := by decide +kernel
theorem dX11_is_16 : decode cX11_is 16 = .ok (.iload_n 1, 1) := by decide +kernel
theorem dX11_is_17 : decode cX11_is 17 = .ok (.if_icmp .ne 7, 3) := by decide +kernel
theorem dX11_is_20 : decode cX11_is 20 = .ok (.iconst 1, 1) := by decide +kernel
theorem dX11_is_21 : decode cX11_is 21 = .ok (.goto 4, 3) := by decide +kernel
theorem dX11_is_24 : decode cX11_is 24 = .ok (.iconst 0, 1) := by decide +kernel
theorem dX11_is_25 : decode cX11_is 25 = .ok (.ireturn, 1) := by decide +kernel
theorem dX11_fail_0 : decode cX11_fail 0 = .ok (.aload_n 0, 1) := by decide +kernel
theorem dX11_fail_1 : decode cX11_fail 1 = .ok (.getfield 239, 3) := by decide +kernel
theorem dX11_fail_4 : decode cX11_fail 4 = .ok (.ifCond .le 4, 3) := by decide +kernel
theorem dX11_fail_7 : decode cX11_fail 7 = .ok (.return_, 1) := by decide +kernel
theorem dX11_fail_8 : decode cX11_fail 8 = .ok (.aload_n 0, 1) := by decide +kernel
theorem dX11_fail_9 : decode cX11_fail 9 = .ok (.iload_n 1, 1) := by decide +kernel
theorem dX11_fail_10 : decode cX11_fail 10 = .ok (.putfield 239, 3) := by decide +kernel
theorem dX11_fail_13 : decode cX11_fail 13 = .ok (.aload_n 0, 1) := by decide +kernel
theorem dX11_fail_14 : decode cX11_fail 14 = .ok (.aload_n 0, 1) := by decide +kernel
theorem dX11_fail_15 : decode cX11_fail 15 = .ok (.getfield 24, 3) := by decide +kernel
theorem dX11_fail_18 : decode cX11_fail 18 = .ok (.aload_n 0, 1) := by decide +kernel
theorem dX11_fail_19 : decode cX11_fail 19 = .ok (.getfield 242, 3) := by decide +kernel
theorem dX11_fail_22 : decode cX11_fail 22 = .ok (.iaload, 1) := by decide +kernel
theorem dX11_fail_23 : decode cX11_fail 23 = .ok (.putfield 245, 3) := by decide +kernel
theorem dX11_fail_26 : decode cX11_fail 26 = .ok (.return_, 1) := by decide +kernel
theorem dX11_wrong_0 : decode cX11_wrong 0 = .ok (.aload_n 0, 1) := by decide +kernel
theorem dX11_wrong_1 : decode cX11_wrong 1 = .ok (.getfield 24, 3) := by decide +kernel
theorem dX11_wrong_4 : decode cX11_wrong 4 = .ok (.iload_n 2, 1) := by decide +kernel
theorem dX11_wrong_5 : decode cX11_wrong 5 = .ok (.iaload, 1) := by decide +kernel
theorem dX11_wrong_6 : decode cX11_wrong 6 = .ok (.istore_n 3, 1) := by decide +kernel
theorem dX11_wrong_7 : decode cX11_wrong 7 = .ok (.aload_n 0, 1) := by decide +kernel
theorem dX11_wrong_8 : decode cX11_wrong 8 = .ok (.getfield 239, 3) := by decide +kernel
theorem dX11_wrong_11 : decode cX11_wrong 11 = .ok (.ifCond .gt 34, 3) := by decide +kernel
theorem dX11_wrong_14 : decode cX11_wrong 14 = .ok (.aload_n 0, 1) := by decide +kernel
theorem dX11_wrong_15 : decode cX11_wrong 15 = .ok (.getfield 248, 3) := by decide +kernel
theorem dX11_wrong_18 : decode cX11_wrong 18 = .ok (.ifCond .eq 28, 3) := by decide +kernel
theorem dX11_wrong_21 : decode cX11_wrong 21 = .ok (.iload_n 3, 1) := by decide +kernel
theorem dX11_wrong_22 : decode cX11_wrong 22 = .ok (.aload_n 0, 1) := by decide +kernel
theorem dX11_wrong_23 : decode cX11_wrong 23 = .ok (.getfield 251, 3) := by decide +kernel
theorem dX11_wrong_26 : decode cX11_wrong 26 = .ok (.if_icmp .gt 19, 3) := by decide +kernel
theorem dX11_wrong_29 : decode cX11_wrong 29 = .ok (.iload_n 3, 1) := by decide +kernel
theorem dX11_wrong_30 : decode cX11_wrong 30 = .ok (.aload_n 0, 1) := by decide +kernel
theorem dX11_wrong_31 : decode cX11_wrong 31 = .ok (.getfield 251, 3) := by decide +kernel
theorem dX11_wrong_34 : decode cX11_wrong 34 = .ok (.if_icmp .ne 12, 3) := by decide +kernel
theorem dX11_wrong_37 : decode cX11_wrong 37 = .ok (.iload_n 1, 1) := by decide +kernel
theorem dX11_wrong_38 : decode cX11_wrong 38 = .ok (.aload_n 0, 1) := by decide +kernel
theorem dX11_wrong_39 : decode cX11_wrong 39 = .ok (.getfield 248, 3) := by decide +kernel
theorem dX11_wrong_42 : decode cX11_wrong 42 = .ok (.if_icmp .lt 4, 3) := by decide +kernel
theorem dX11_wrong_45 : decode cX11_wrong 45 = .ok (.return_, 1) := by decide +kernel
theorem dX11_wrong_46 : decode cX11_wrong 46 = .ok (.aload_n 0, 1) := by decide +kernel
theorem dX11_wrong_47 : decode cX11_wrong 47 = .ok (.iload_n 1, 1) := by decide +kernel
theorem dX11_wrong_48 : decode cX11_wrong 48 = .ok (.putfield 248, 3) := by decide +kernel
theorem dX11_wrong_51 : decode cX11_wrong 51 = .ok (.aload_n 0, 1) := by decide +kernel
theorem dX11_wrong_52 : decode cX11_wrong 52 = .ok (.iload_n 3, 1) := by decide +kernel
theorem dX11_wrong_53 : decode cX11_wrong 53 = .ok (.putfield 251, 3) := by decide +kernel
theorem dX11_wrong_56 : decode cX11_wrong 56 = .ok (.return_, 1) := by decide +kernel
theorem dX11_goesOn_0 : decode cX11_goesOn 0 = .ok (.aload_n 0, 1) := by decide +kernel
theorem dX11_goesOn_1 : decode cX11_goesOn 1 = .ok (.getfield 242, 3) := by decide +kernel
theorem dX11_goesOn_4 : decode cX11_goesOn 4 = .ok (.sipush 400, 3) := by decide +kernel
theorem dX11_goesOn_7 : decode cX11_goesOn 7 = .ok (.if_icmp .ne 11, 3) := by decide +kernel
theorem dX11_goesOn_10 : decode cX11_goesOn 10 = .ok (.aload_n 0, 1) := by decide +kernel
theorem dX11_goesOn_11 : decode cX11_goesOn 11 = .ok (.iconst 2, 1) := by decide +kernel
theorem dX11_goesOn_12 : decode cX11_goesOn 12 = .ok (.invokevirtual 254, 3) := by decide +kernel
theorem dX11_goesOn_15 : decode cX11_goesOn 15 = .ok (.goto 13, 3) := by decide +kernel
theorem dX11_goesOn_18 : decode cX11_goesOn 18 = .ok (.aload_n 0, 1) := by decide +kernel
theorem dX11_goesOn_19 : decode cX11_goesOn 19 = .ok (.dup, 1) := by decide +kernel
theorem dX11_goesOn_20 : decode cX11_goesOn 20 = .ok (.getfield 242, 3) := by decide +kernel
theorem dX11_goesOn_23 : decode cX11_goesOn 23 = .ok (.iconst 1, 1) := by decide +kernel
theorem dX11_goesOn_24 : decode cX11_goesOn 24 = .ok (.iadd, 1) := by decide +kernel
theorem dX11_goesOn_25 : decode cX11_goesOn 25 = .ok (.putfield 242, 3) := by decide +kernel
theorem dX11_goesOn_28 : decode cX11_goesOn 28 = .ok (.return_, 1) := by decide +kernel
theorem dX11_must_0 : decode cX11_must 0 = .ok (.aload_n 0, 1) := by decide +kernel
theorem dX11_must_1 : decode cX11_must 1 = .ok (.iload_n 1, 1) := by decide +kernel
theorem dX11_must_2 : decode cX11_must 2 = .ok (.invokevirtual 257, 3) := by decide +kernel
theorem dX11_must_5 : decode cX11_must 5 = .ok (.ifCond .eq 10, 3) := by decide +kernel
theorem dX11_must_8 : decode cX11_must 8 = .ok (.aload_n 0, 1) := by decide +kernel
theorem dX11_must_9 : decode cX11_must 9 = .ok (.invokevirtual 260, 3) := by decide +kernel
theorem dX11_must_12 : decode cX11_must 12 = .ok (.goto 8, 3) := by decide +kernel
theorem dX11_must_15 : decode cX11_must 15 = .ok (.aload_n 0, 1) := by decide +kernel
theorem dX11_must_16 : decode cX11_must 16 = .ok (.iconst 1, 1) := by decide +kernel
theorem dX11_must_17 : decode cX11_must 17 = .ok (.invokevirtual 254, 3) := by decide +kernel
theorem dX11_must_20 : decode cX11_must 20 = .ok (.return_, 1) := by decide +kernel
theorem dX11_plain_0 : decode cX11_plain 0 = .ok (.aload_n 0, 1) := by decide +kernel
theorem dX11_plain_1 : decode cX11_plain 1 = .ok (.getfield 43, 3) := by decide +kernel
theorem dX11_plain_4 : decode cX11_plain 4 = .ok (.iload_n 1, 1) := by decide +kernel
theorem dX11_plain_5 : decode cX11_plain 5 = .ok (.bipush 8, 2) := by decide +kernel
theorem dX11_plain_7 : decode cX11_plain 7 = .ok (.iastore, 1) := by decide +kernel
theorem dX11_plain_8 : decode cX11_plain 8 = .ok (.aload_n 0, 1) := by decide +kernel
theorem dX11_plain_9 : decode cX11_plain 9 = .ok (.getfield 46, 3) := by decide +kernel
theorem dX11_plain_12 : decode cX11_plain 12 = .ok (.iload_n 1, 1) := by decide +kernel
theorem dX11_plain_13 : decode cX11_plain 13 = .ok (.iconst 4, 1) := by decide +kernel
theorem dX11_plain_14 : decode cX11_plain 14 = .ok (.iastore, 1) := by decide +kernel
theorem dX11_plain_15 : decode cX11_plain 15 = .ok (.aload_n 0, 1) := by decide +kernel
theorem dX11_plain_16 : decode cX11_plain 16 = .ok (.getfield 49, 3) := by decide +kernel
theorem dX11_plain_19 : decode cX11_plain 19 = .ok (.iload_n 1, 1) := by decide +kernel
theorem dX11_plain_20 : decode cX11_plain 20 = .ok (.iconst 0, 1) := by decide +kernel
theorem dX11_plain_21 : decode cX11_plain 21 = .ok (.iastore, 1) := by decide +kernel
theorem dX11_plain_22 : decode cX11_plain 22 = .ok (.aload_n 0, 1) := by decide +kernel
theorem dX11_plain_23 : decode cX11_plain 23 = .ok (.getfield 58, 3) := by decide +kernel
theorem dX11_plain_26 : decode cX11_plain 26 = .ok (.iload_n 1, 1) := by decide +kernel
theorem dX11_plain_27 : decode cX11_plain 27 = .ok (.iconst 1, 1) := by decide +kernel
theorem dX11_plain_28 : decode cX11_plain 28 = .ok (.iastore, 1) := by decide +kernel
theorem dX11_plain_29 : decode cX11_plain 29 = .ok (.aload_n 0, 1) := by decide +kernel
theorem dX11_plain_30 : decode cX11_plain 30 = .ok (.getfield 61, 3) := by decide +kernel
theorem dX11_plain_33 : decode cX11_plain 33 = .ok (.iload_n 1, 1) := by decide +kernel
theorem dX11_plain_34 : decode cX11_plain 34 = .ok (.iconst 0, 1) := by decide +kernel
theorem dX11_plain_35 : decode cX11_plain 35 = .ok (.iastore, 1) := by decide +kernel
theorem dX11_plain_36 : decode cX11_plain 36 = .ok (.aload_n 0, 1) := by decide +kernel
theorem dX11_plain_37 : decode cX11_plain 37 = .ok (.getfield 76, 3) := by decide +kernel
theorem dX11_plain_40 : decode cX11_plain 40 = .ok (.iload_n 1, 1) := by decide +kernel
theorem dX11_plain_41 : decode cX11_plain 41 = .ok (.iconst 0, 1) := by decide +kernel
theorem dX11_plain_42 : decode cX11_plain 42 = .ok (.iastore, 1) := by decide +kernel
theorem dX11_plain_43 : decode cX11_plain 43 = .ok (.iconst 0, 1) := by decide +kernel
theorem dX11_plain_44 : decode cX11_plain 44 = .ok (.istore_n 2, 1) := by decide +kernel
theorem dX11_plain_45 : decode cX11_plain 45 = .ok (.iload_n 2, 1) := by decide +kernel
theorem dX11_plain_46 : decode cX11_plain 46 = .ok (.bipush 96, 2) := by decide +kernel
theorem dX11_plain_48 : decode cX11_plain 48 = .ok (.if_icmp .ge 21, 3) := by decide +kernel
theorem dX11_plain_51 : decode cX11_plain 51 = .ok (.aload_n 0, 1) := by decide +kernel
theorem dX11_plain_52 : decode cX11_plain 52 = .ok (.getfield 52, 3) := by decide +kernel
theorem dX11_plain_55 : decode cX11_plain 55 = .ok (.bipush 96, 2) := by decide +kernel
theorem dX11_plain_57 : decode cX11_plain 57 = .ok (.iload_n 1, 1) := by decide +kernel
theorem dX11_plain_58 : decode cX11_plain 58 = .ok (.imul, 1) := by decide +kernel
theorem dX11_plain_59 : decode cX11_plain 59 = .ok (.iload_n 2, 1) := by decide +kernel
theorem dX11_plain_60 : decode cX11_plain 60 = .ok (.iadd, 1) := by decide +kernel
theorem dX11_plain_61 : decode cX11_plain 61 = .ok (.iconst 1, 1) := by decide +kernel
theorem dX11_plain_62 : decode cX11_plain 62 = .ok (.iastore, 1) := by decide +kernel
theorem dX11_plain_63 : decode cX11_plain 63 = .ok (.iinc 2 1, 3) := by decide +kernel
theorem dX11_plain_66 : decode cX11_plain 66 = .ok (.goto (-21), 3) := by decide +kernel
theorem dX11_plain_69 : decode cX11_plain 69 = .ok (.iconst 0, 1) := by decide +kernel
theorem dX11_plain_70 : decode cX11_plain 70 = .ok (.istore_n 2, 1) := by decide +kernel
theorem dX11_plain_71 : decode cX11_plain 71 = .ok (.iload_n 2, 1) := by decide +kernel
theorem dX11_plain_72 : decode cX11_plain 72 = .ok (.bipush 8, 2) := by decide +kernel
theorem dX11_plain_74 : decode cX11_plain 74 = .ok (.if_icmp .ge 21, 3) := by decide +kernel
theorem dX11_plain_77 : decode cX11_plain 77 = .ok (.aload_n 0, 1) := by decide +kernel
theorem dX11_plain_78 : decode cX11_plain 78 = .ok (.getfield 55, 3) := by decide +kernel
theorem dX11_plain_81 : decode cX11_plain 81 = .ok (.bipush 8, 2) := by decide +kernel
theorem dX11_plain_83 : decode cX11_plain 83 = .ok (.iload_n 1, 1) := by decide +kernel
theorem dX11_plain_84 : decode cX11_plain 84 = .ok (.imul, 1) := by decide +kernel
theorem dX11_plain_85 : decode cX11_plain 85 = .ok (.iload_n 2, 1) := by decide +kernel
theorem dX11_plain_86 : decode cX11_plain 86 = .ok (.iadd, 1) := by decide +kernel
theorem dX11_plain_87 : decode cX11_plain 87 = .ok (.iconst 0, 1) := by decide +kernel
theorem dX11_plain_88 : decode cX11_plain 88 = .ok (.iastore, 1) := by decide +kernel
theorem dX11_plain_89 : decode cX11_plain 89 = .ok (.iinc 2 1, 3) := by decide +kernel
theorem dX11_plain_92 : decode cX11_plain 92 = .ok (.goto (-21), 3) := by decide +kernel
theorem dX11_plain_95 : decode cX11_plain 95 = .ok (.iconst 0, 1) := by decide +kernel
theorem dX11_plain_96 : decode cX11_plain 96 = .ok (.istore_n 2, 1) := by decide +kernel
theorem dX11_plain_97 : decode cX11_plain 97 = .ok (.iload_n 2, 1) := by decide +kernel
theorem dX11_plain_98 : decode cX11_plain 98 = .ok (.iconst 2, 1) := by decide +kernel
theorem dX11_plain_99 : decode cX11_plain 99 = .ok (.if_icmp .ge 31, 3) := by decide +kernel
theorem dX11_plain_102 : decode cX11_plain 102 = .ok (.aload_n 0, 1) := by decide +kernel
theorem dX11_plain_103 : decode cX11_plain 103 = .ok (.getfield 85, 3) := by decide +kernel
theorem dX11_plain_106 : decode cX11_plain 106 = .ok (.iconst 2, 1) := by decide +kernel
theorem dX11_plain_107 : decode cX11_plain 107 = .ok (.iload_n 1, 1) := by decide +kernel
theorem dX11_plain_108 : decode cX11_plain 108 = .ok (.imul, 1) := by decide +kernel
theorem dX11_plain_109 : decode cX11_plain 109 = .ok (.iload_n 2, 1) := by decide +kernel
theorem dX11_plain_110 : decode cX11_plain 110 = .ok (.iadd, 1) := by decide +kernel
theorem dX11_plain_111 : decode cX11_plain 111 = .ok (.iconst 0, 1) := by decide +kernel
theorem dX11_plain_112 : decode cX11_plain 112 = .ok (.iastore, 1) := by decide +kernel
theorem dX11_plain_113 : decode cX11_plain 113 = .ok (.aload_n 0, 1) := by decide +kernel
theorem dX11_plain_114 : decode cX11_plain 114 = .ok (.getfield 88, 3) := by decide +kernel
theorem dX11_plain_117 : decode cX11_plain 117 = .ok (.iconst 2, 1) := by decide +kernel
theorem dX11_plain_118 : decode cX11_plain 118 = .ok (.iload_n 1, 1) := by decide +kernel
theorem dX11_plain_119 : decode cX11_plain 119 = .ok (.imul, 1) := by decide +kernel
theorem dX11_plain_120 : decode cX11_plain 120 = .ok (.iload_n 2, 1) := by decide +kernel
theorem dX11_plain_121 : decode cX11_plain 121 = .ok (.iadd, 1) := by decide +kernel
theorem dX11_plain_122 : decode cX11_plain 122 = .ok (.iconst 0, 1) := by decide +kernel
theorem dX11_plain_123 : decode cX11_plain 123 = .ok (.iastore, 1) := by decide +kernel
theorem dX11_plain_124 : decode cX11_plain 124 = .ok (.iinc 2 1, 3) := by decide +kernel
theorem dX11_plain_127 : decode cX11_plain 127 = .ok (.goto (-30), 3) := by decide +kernel
theorem dX11_plain_130 : decode cX11_plain 130 = .ok (.return_, 1) := by decide +kernel
theorem dX11_read_0 : decode cX11_read 0 = .ok (.aload_n 0, 1) := by decide +kernel
theorem dX11_read_1 : decode cX11_read 1 = .ok (.aload_n 0, 1) := by decide +kernel
theorem dX11_read_2 : decode cX11_read 2 = .ok (.getfield 202, 3) := by decide +kernel
theorem dX11_read_5 : decode cX11_read 5 = .ok (.putfield 208, 3) := by decide +kernel
theorem dX11_read_8 : decode cX11_read 8 = .ok (.iconst 0, 1) := by decide +kernel
theorem dX11_read_9 : decode cX11_read 9 = .ok (.istore_n 1, 1) := by decide +kernel
theorem dX11_read_10 : decode cX11_read 10 = .ok (.iload_n 1, 1) := by decide +kernel
theorem dX11_read_11 : decode cX11_read 11 = .ok (.aload_n 0, 1) := by decide +kernel
theorem dX11_read_12 : decode cX11_read 12 = .ok (.getfield 208, 3) := by decide +kernel
theorem dX11_read_15 : decode cX11_read 15 = .ok (.if_icmp .ge 21, 3) := by decide +kernel
theorem dX11_read_18 : decode cX11_read 18 = .ok (.aload_n 0, 1) := by decide +kernel
theorem dX11_read_19 : decode cX11_read 19 = .ok (.getfield 17, 3) := by decide +kernel
theorem dX11_read_22 : decode cX11_read 22 = .ok (.iload_n 1, 1) := by decide +kernel
theorem dX11_read_23 : decode cX11_read 23 = .ok (.aload_n 0, 1) := by decide +kernel
theorem dX11_read_24 : decode cX11_read 24 = .ok (.getfield 13, 3) := by decide +kernel
theorem dX11_read_27 : decode cX11_read 27 = .ok (.iload_n 1, 1) := by decide +kernel
theorem dX11_read_28 : decode cX11_read 28 = .ok (.baload, 1) := by decide +kernel
theorem dX11_read_29 : decode cX11_read 29 = .ok (.bastore, 1) := by decide +kernel
theorem dX11_read_30 : decode cX11_read 30 = .ok (.iinc 1 1, 3) := by decide +kernel
theorem dX11_read_33 : decode cX11_read 33 = .ok (.goto (-23), 3) := by decide +kernel
theorem dX11_read_36 : decode cX11_read 36 = .ok (.aload_n 0, 1) := by decide +kernel
theorem dX11_read_37 : decode cX11_read 37 = .ok (.iconst 0, 1) := by decide +kernel
theorem dX11_read_38 : decode cX11_read 38 = .ok (.putfield 202, 3) := by decide +kernel
theorem dX11_read_41 : decode cX11_read 41 = .ok (.aload_n 0, 1) := by decide +kernel
theorem dX11_read_42 : decode cX11_read 42 = .ok (.invokevirtual 263, 3) := by decide +kernel
theorem dX11_read_45 : decode cX11_read 45 = .ok (.aload_n 0, 1) := by decide +kernel
theorem dX11_read_46 : decode cX11_read 46 = .ok (.iconst 0, 1) := by decide +kernel
theorem dX11_read_47 : decode cX11_read 47 = .ok (.putfield 242, 3) := by decide +kernel
theorem dX11_read_50 : decode cX11_read 50 = .ok (.aload_n 0, 1) := by decide +kernel
theorem dX11_read_51 : decode cX11_read 51 = .ok (.iconst 0, 1) := by decide +kernel
theorem dX11_read_52 : decode cX11_read 52 = .ok (.putfield 266, 3) := by decide +kernel
theorem dX11_read_55 : decode cX11_read 55 = .ok (.aload_n 0, 1) := by decide +kernel
theorem dX11_read_56 : decode cX11_read 56 = .ok (.iconst 0, 1) := by decide +kernel
theorem dX11_read_57 : decode cX11_read 57 = .ok (.putfield 239, 3) := by decide +kernel
theorem dX11_read_60 : decode cX11_read 60 = .ok (.aload_n 0, 1) := by decide +kernel
theorem dX11_read_61 : decode cX11_read 61 = .ok (.iconst 0, 1) := by decide +kernel
theorem dX11_read_62 : decode cX11_read 62 = .ok (.putfield 248, 3) := by decide +kernel
theorem dX11_read_65 : decode cX11_read 65 = .ok (.aload_n 0, 1) := by decide +kernel
theorem dX11_read_66 : decode cX11_read 66 = .ok (.iconst 1, 1) := by decide +kernel
theorem dX11_read_67 : decode cX11_read 67 = .ok (.aload_n 0, 1) := by decide +kernel
theorem dX11_read_68 : decode cX11_read 68 = .ok (.getfield 269, 3) := by decide +kernel
theorem dX11_read_71 : decode cX11_read 71 = .ok (.isub, 1) := by decide +kernel
theorem dX11_read_72 : decode cX11_read 72 = .ok (.putfield 272, 3) := by decide +kernel
theorem dX11_read_75 : decode cX11_read 75 = .ok (.aload_n 0, 1) := by decide +kernel
theorem dX11_read_76 : decode cX11_read 76 = .ok (.iconst 0, 1) := by decide +kernel
theorem dX11_read_77 : decode cX11_read 77 = .ok (.putfield 275, 3) := by decide +kernel
theorem dX11_read_80 : decode cX11_read 80 = .ok (.aload_n 0, 1) := by decide +kernel
theorem dX11_read_81 : decode cX11_read 81 = .ok (.aload_n 0, 1) := by decide +kernel
theorem dX11_read_82 : decode cX11_read 82 = .ok (.getfield 272, 3) := by decide +kernel
theorem dX11_read_85 : decode cX11_read 85 = .ok (.invokevirtual 191, 3) := by decide +kernel
theorem dX11_read_88 : decode cX11_read 88 = .ok (.aload_n 0, 1) := by decide +kernel
theorem dX11_read_89 : decode cX11_read 89 = .ok (.sipush 130, 3) := by decide +kernel
theorem dX11_read_92 : decode cX11_read 92 = .ok (.aload_n 0, 1) := by decide +kernel
theorem dX11_read_93 : decode cX11_read 93 = .ok (.getfield 272, 3) := by decide +kernel
theorem dX11_read_96 : decode cX11_read 96 = .ok (.imul, 1) := by decide +kernel
theorem dX11_read_97 : decode cX11_read 97 = .ok (.putfield 278, 3) := by decide +kernel
theorem dX11_read_100 : decode cX11_read 100 = .ok (.aload_n 0, 1) := by decide +kernel
theorem dX11_read_101 : decode cX11_read 101 = .ok (.sipush 420, 3) := by decide +kernel
theorem dX11_read_104 : decode cX11_read 104 = .ok (.aload_n 0, 1) := by decide +kernel
theorem dX11_read_105 : decode cX11_read 105 = .ok (.getfield 272, 3) := by decide +kernel
theorem dX11_read_108 : decode cX11_read 108 = .ok (.imul, 1) := by decide +kernel
theorem dX11_read_109 : decode cX11_read 109 = .ok (.putfield 281, 3) := by decide +kernel
theorem dX11_read_112 : decode cX11_read 112 = .ok (.aload_n 0, 1) := by decide +kernel
theorem dX11_read_113 : decode cX11_read 113 = .ok (.getfield 239, 3) := by decide +kernel
theorem dX11_read_116 : decode cX11_read 116 = .ok (.ifCond .ne 18, 3) := by decide +kernel
theorem dX11_read_119 : decode cX11_read 119 = .ok (.aload_n 0, 1) := by decide +kernel
theorem dX11_read_120 : decode cX11_read 120 = .ok (.iconst 0, 1) := by decide +kernel
theorem dX11_read_121 : decode cX11_read 121 = .ok (.invokevirtual 257, 3) := by decide +kernel
theorem dX11_read_124 : decode cX11_read 124 = .ok (.ifCond .ne 10, 3) := by decide +kernel
theorem dX11_read_127 : decode cX11_read 127 = .ok (.aload_n 0, 1) := by decide +kernel
theorem dX11_read_128 : decode cX11_read 128 = .ok (.invokevirtual 284, 3) := by decide +kernel
theorem dX11_read_131 : decode cX11_read 131 = .ok (.goto (-19), 3) := by decide +kernel
theorem dX11_read_134 : decode cX11_read 134 = .ok (.aload_n 0, 1) := by decide +kernel
theorem dX11_read_135 : decode cX11_read 135 = .ok (.aload_n 0, 1) := by decide +kernel
theorem dX11_read_136 : decode cX11_read 136 = .ok (.getfield 239, 3) := by decide +kernel
theorem dX11_read_139 : decode cX11_read 139 = .ok (.ifCond .le 10, 3) := by decide +kernel
theorem dX11_read_142 : decode cX11_read 142 = .ok (.aload_n 0, 1) := by decide +kernel
theorem dX11_read_143 : decode cX11_read 143 = .ok (.getfield 245, 3) := by decide +kernel
theorem dX11_read_146 : decode cX11_read 146 = .ok (.goto 18, 3) := by decide +kernel
theorem dX11_read_149 : decode cX11_read 149 = .ok (.aload_n 0, 1) := by decide +kernel
theorem dX11_read_150 : decode cX11_read 150 = .ok (.getfield 248, 3) := by decide +kernel
theorem dX11_read_153 : decode cX11_read 153 = .ok (.ifCond .le 10, 3) := by decide +kernel
theorem dX11_read_156 : decode cX11_read 156 = .ok (.aload_n 0, 1) := by decide +kernel
theorem dX11_read_157 : decode cX11_read 157 = .ok (.getfield 251, 3) := by decide +kernel
theorem dX11_read_160 : decode cX11_read 160 = .ok (.goto 4, 3) := by decide +kernel
theorem dX11_read_163 : decode cX11_read 163 = .ok (.iconst (-1), 1) := by decide +kernel
theorem dX11_read_164 : decode cX11_read 164 = .ok (.putfield 37, 3) := by decide +kernel
theorem dX11_read_167 : decode cX11_read 167 = .ok (.aload_n 0, 1) := by decide +kernel
theorem dX11_read_168 : decode cX11_read 168 = .ok (.getfield 239, 3) := by decide +kernel
theorem dX11_read_171 : decode cX11_read 171 = .ok (.ifCond .le 8, 3) := by decide +kernel
theorem dX11_read_174 : decode cX11_read 174 = .ok (.aload_n 0, 1) := by decide +kernel
theorem dX11_read_175 : decode cX11_read 175 = .ok (.getfield 239, 3) := by decide +kernel
theorem dX11_read_178 : decode cX11_read 178 = .ok (.ireturn, 1) := by decide +kernel
theorem dX11_read_179 : decode cX11_read 179 = .ok (.aload_n 0, 1) := by decide +kernel
theorem dX11_read_180 : decode cX11_read 180 = .ok (.getfield 248, 3) := by decide +kernel
theorem dX11_read_183 : decode cX11_read 183 = .ok (.ifCond .le 8, 3) := by decide +kernel
theorem dX11_read_186 : decode cX11_read 186 = .ok (.aload_n 0, 1) := by decide +kernel
theorem dX11_read_187 : decode cX11_read 187 = .ok (.getfield 248, 3) := by decide +kernel
theorem dX11_read_190 : decode cX11_read 190 = .ok (.ireturn, 1) := by decide +kernel
theorem dX11_read_191 : decode cX11_read 191 = .ok (.aload_n 0, 1) := by decide +kernel
theorem dX11_read_192 : decode cX11_read 192 = .ok (.aload_n 0, 1) := by decide +kernel
theorem dX11_read_193 : decode cX11_read 193 = .ok (.getfield 272, 3) := by decide +kernel
theorem dX11_read_196 : decode cX11_read 196 = .ok (.putfield 269, 3) := by decide +kernel
theorem dX11_read_199 : decode cX11_read 199 = .ok (.aload_n 0, 1) := by decide +kernel
theorem dX11_read_200 : decode cX11_read 200 = .ok (.invokevirtual 199, 3) := by decide +kernel
theorem dX11_read_203 : decode cX11_read 203 = .ok (.aload_n 0, 1) := by decide +kernel
theorem dX11_read_204 : decode cX11_read 204 = .ok (.iconst 0, 1) := by decide +kernel
theorem dX11_read_205 : decode cX11_read 205 = .ok (.putfield 287, 3) := by decide +kernel
theorem dX11_read_208 : decode cX11_read 208 = .ok (.aload_n 0, 1) := by decide +kernel
theorem dX11_read_209 : decode cX11_read 209 = .ok (.iconst 0, 1) := by decide +kernel
theorem dX11_read_210 : decode cX11_read 210 = .ok (.putfield 290, 3) := by decide +kernel
theorem dX11_read_213 : decode cX11_read 213 = .ok (.iconst 0, 1) := by decide +kernel
theorem dX11_read_214 : decode cX11_read 214 = .ok (.istore_n 1, 1) := by decide +kernel
theorem dX11_read_215 : decode cX11_read 215 = .ok (.iload_n 1, 1) := by decide +kernel
theorem dX11_read_216 : decode cX11_read 216 = .ok (.iconst 3, 1) := by decide +kernel
theorem dX11_read_217 : decode cX11_read 217 = .ok (.if_icmp .ge 16, 3) := by decide +kernel
theorem dX11_read_220 : decode cX11_read 220 = .ok (.aload_n 0, 1) := by decide +kernel
theorem dX11_read_221 : decode cX11_read 221 = .ok (.getfield 185, 3) := by decide +kernel
theorem dX11_read_224 : decode cX11_read 224 = .ok (.iload_n 1, 1) := by decide +kernel
theorem dX11_read_225 : decode cX11_read 225 = .ok (.iconst 0, 1) := by decide +kernel
theorem dX11_read_226 : decode cX11_read 226 = .ok (.bastore, 1) := by decide +kernel
theorem dX11_read_227 : decode cX11_read 227 = .ok (.iinc 1 1, 3) := by decide +kernel
theorem dX11_read_230 : decode cX11_read 230 = .ok (.goto (-15), 3) := by decide +kernel
theorem dX11_read_233 : decode cX11_read 233 = .ok (.iconst 0, 1) := by decide +kernel
theorem dX11_read_234 : decode cX11_read 234 = .ok (.ireturn, 1) := by decide +kernel
theorem dX11_place_0 : decode cX11_place 0 = .ok (.aload_n 0, 1) := by decide +kernel
theorem dX11_place_1 : decode cX11_place 1 = .ok (.getfield 37, 3) := by decide +kernel
theorem dX11_place_4 : decode cX11_place 4 = .ok (.ireturn, 1) := by decide +kernel
theorem dX11_roomFor_0 : decode cX11_roomFor 0 = .ok (.iload_n 1, 1) := by decide +kernel
theorem dX11_roomFor_1 : decode cX11_roomFor 1 = .ok (.iload_n 2, 1) := by decide +kernel
theorem dX11_roomFor_2 : decode cX11_roomFor 2 = .ok (.if_icmp .ne 8, 3) := by decide +kernel
theorem dX11_roomFor_5 : decode cX11_roomFor 5 = .ok (.aload_n 0, 1) := by decide +kernel
theorem dX11_roomFor_6 : decode cX11_roomFor 6 = .ok (.iconst 2, 1) := by decide +kernel
theorem dX11_roomFor_7 : decode cX11_roomFor 7 = .ok (.invokevirtual 254, 3) := by decide +kernel
theorem dX11_roomFor_10 : decode cX11_roomFor 10 = .ok (.aload_n 0, 1) := by decide +kernel
theorem dX11_roomFor_11 : decode cX11_roomFor 11 = .ok (.getfield 239, 3) := by decide +kernel
theorem dX11_roomFor_14 : decode cX11_roomFor 14 = .ok (.ifCond .ne 7, 3) := by decide +kernel
theorem dX11_roomFor_17 : decode cX11_roomFor 17 = .ok (.aload_n 0, 1) := by decide +kernel
theorem dX11_roomFor_18 : decode cX11_roomFor 18 = .ok (.invokevirtual 260, 3) := by decide +kernel
theorem dX11_roomFor_21 : decode cX11_roomFor 21 = .ok (.return_, 1) := by decide +kernel
theorem dX11_tell_0 : decode cX11_tell 0 = .ok (.aload_n 0, 1) := by decide +kernel
theorem dX11_tell_1 : decode cX11_tell 1 = .ok (.getfield 20, 3) := by decide +kernel
theorem dX11_tell_4 : decode cX11_tell 4 = .ok (.aload_n 0, 1) := by decide +kernel
theorem dX11_tell_5 : decode cX11_tell 5 = .ok (.getfield 242, 3) := by decide +kernel
theorem dX11_tell_8 : decode cX11_tell 8 = .ok (.iaload, 1) := by decide +kernel
theorem dX11_tell_9 : decode cX11_tell 9 = .ok (.tableswitch 286 20 27 #[47, 91, 120, 176, 203, 232, 261, 261], 47) := by decide +kernel
theorem dX11_tell_56 : decode cX11_tell 56 = .ok (.aload_n 0, 1) := by decide +kernel
theorem dX11_tell_57 : decode cX11_tell 57 = .ok (.invokevirtual 260, 3) := by decide +kernel
theorem dX11_tell_60 : decode cX11_tell 60 = .ok (.aload_n 0, 1) := by decide +kernel
theorem dX11_tell_61 : decode cX11_tell 61 = .ok (.getfield 43, 3) := by decide +kernel
theorem dX11_tell_64 : decode cX11_tell 64 = .ok (.aload_n 0, 1) := by decide +kernel
theorem dX11_tell_65 : decode cX11_tell 65 = .ok (.getfield 272, 3) := by decide +kernel
theorem dX11_tell_68 : decode cX11_tell 68 = .ok (.aload_n 0, 1) := by decide +kernel
theorem dX11_tell_69 : decode cX11_tell 69 = .ok (.iconst 1, 1) := by decide +kernel
theorem dX11_tell_70 : decode cX11_tell 70 = .ok (.bipush 12, 2) := by decide +kernel
theorem dX11_tell_72 : decode cX11_tell 72 = .ok (.invokevirtual 293, 3) := by decide +kernel
theorem dX11_tell_75 : decode cX11_tell 75 = .ok (.iastore, 1) := by decide +kernel
theorem dX11_tell_76 : decode cX11_tell 76 = .ok (.aload_n 0, 1) := by decide +kernel
theorem dX11_tell_77 : decode cX11_tell 77 = .ok (.getfield 46, 3) := by decide +kernel
theorem dX11_tell_80 : decode cX11_tell 80 = .ok (.aload_n 0, 1) := by decide +kernel
theorem dX11_tell_81 : decode cX11_tell 81 = .ok (.getfield 272, 3) := by decide +kernel
theorem dX11_tell_84 : decode cX11_tell 84 = .ok (.aload_n 0, 1) := by decide +kernel
theorem dX11_tell_85 : decode cX11_tell 85 = .ok (.iconst 1, 1) := by decide +kernel
theorem dX11_tell_86 : decode cX11_tell 86 = .ok (.bipush 8, 2) := by decide +kernel
theorem dX11_tell_88 : decode cX11_tell 88 = .ok (.invokevirtual 293, 3) := by decide +kernel
theorem dX11_tell_91 : decode cX11_tell 91 = .ok (.iastore, 1) := by decide +kernel
theorem dX11_tell_92 : decode cX11_tell 92 = .ok (.aload_n 0, 1) := by decide +kernel
theorem dX11_tell_93 : decode cX11_tell 93 = .ok (.iconst 4, 1) := by decide +kernel
theorem dX11_tell_94 : decode cX11_tell 94 = .ok (.invokevirtual 297, 3) := by decide +kernel
theorem dX11_tell_97 : decode cX11_tell 97 = .ok (.goto 203, 3) := by decide +kernel
theorem dX11_tell_100 : decode cX11_tell 100 = .ok (.aload_n 0, 1) := by decide +kernel
theorem dX11_tell_101 : decode cX11_tell 101 = .ok (.aload_n 0, 1) := by decide +kernel
theorem dX11_tell_102 : decode cX11_tell 102 = .ok (.getfield 49, 3) := by decide +kernel
theorem dX11_tell_105 : decode cX11_tell 105 = .ok (.aload_n 0, 1) := by decide +kernel
theorem dX11_tell_106 : decode cX11_tell 106 = .ok (.getfield 272, 3) := by decide +kernel
theorem dX11_tell_109 : decode cX11_tell 109 = .ok (.iaload, 1) := by decide +kernel
theorem dX11_tell_110 : decode cX11_tell 110 = .ok (.bipush 20, 2) := by decide +kernel
theorem dX11_tell_112 : decode cX11_tell 112 = .ok (.invokevirtual 300, 3) := by decide +kernel
theorem dX11_tell_115 : decode cX11_tell 115 = .ok (.aload_n 0, 1) := by decide +kernel
theorem dX11_tell_116 : decode cX11_tell 116 = .ok (.getfield 239, 3) := by decide +kernel
theorem dX11_tell_119 : decode cX11_tell 119 = .ok (.ifCond .ne 181, 3) := by decide +kernel
theorem dX11_tell_122 : decode cX11_tell 122 = .ok (.aload_n 0, 1) := by decide +kernel
theorem dX11_tell_123 : decode cX11_tell 123 = .ok (.invokevirtual 304, 3) := by decide +kernel
theorem dX11_tell_126 : decode cX11_tell 126 = .ok (.goto 174, 3) := by decide +kernel
theorem dX11_tell_129 : decode cX11_tell 129 = .ok (.aload_n 0, 1) := by decide +kernel
theorem dX11_tell_130 : decode cX11_tell 130 = .ok (.invokevirtual 260, 3) := by decide +kernel
theorem dX11_tell_133 : decode cX11_tell 133 = .ok (.aload_n 0, 1) := by decide +kernel
theorem dX11_tell_134 : decode cX11_tell 134 = .ok (.iconst 0, 1) := by decide +kernel
theorem dX11_tell_135 : decode cX11_tell 135 = .ok (.bipush 7, 2) := by decide +kernel
theorem dX11_tell_137 : decode cX11_tell 137 = .ok (.invokevirtual 293, 3) := by decide +kernel
theorem dX11_tell_140 : decode cX11_tell 140 = .ok (.istore_n 1, 1) := by decide +kernel
theorem dX11_tell_141 : decode cX11_tell 141 = .ok (.aload_n 0, 1) := by decide +kernel
theorem dX11_tell_142 : decode cX11_tell 142 = .ok (.iconst 0, 1) := by decide +kernel
theorem dX11_tell_143 : decode cX11_tell 143 = .ok (.bipush 9, 2) := by decide +kernel
theorem dX11_tell_145 : decode cX11_tell 145 = .ok (.invokevirtual 293, 3) := by decide +kernel
theorem dX11_tell_148 : decode cX11_tell 148 = .ok (.istore_n 2, 1) := by decide +kernel
theorem dX11_tell_149 : decode cX11_tell 149 = .ok (.aload_n 0, 1) := by decide +kernel
theorem dX11_tell_150 : decode cX11_tell 150 = .ok (.iconst 4, 1) := by decide +kernel
theorem dX11_tell_151 : decode cX11_tell 151 = .ok (.invokevirtual 297, 3) := by decide +kernel
theorem dX11_tell_154 : decode cX11_tell 154 = .ok (.aload_n 0, 1) := by decide +kernel
theorem dX11_tell_155 : decode cX11_tell 155 = .ok (.getfield 239, 3) := by decide +kernel
theorem dX11_tell_158 : decode cX11_tell 158 = .ok (.ifCond .ne 142, 3) := by decide +kernel
theorem dX11_tell_161 : decode cX11_tell 161 = .ok (.iload_n 1, 1) := by decide +kernel
theorem dX11_tell_162 : decode cX11_tell 162 = .ok (.bipush 8, 2) := by decide +kernel
theorem dX11_tell_164 : decode cX11_tell 164 = .ok (.if_icmp .ge 136, 3) := by decide +kernel
theorem dX11_tell_167 : decode cX11_tell 167 = .ok (.aload_n 0, 1) := by decide +kernel
theorem dX11_tell_168 : decode cX11_tell 168 = .ok (.getfield 55, 3) := by decide +kernel
theorem dX11_tell_171 : decode cX11_tell 171 = .ok (.bipush 8, 2) := by decide +kernel
theorem dX11_tell_173 : decode cX11_tell 173 = .ok (.aload_n 0, 1) := by decide +kernel
theorem dX11_tell_174 : decode cX11_tell 174 = .ok (.getfield 272, 3) := by decide +kernel
theorem dX11_tell_177 : decode cX11_tell 177 = .ok (.imul, 1) := by decide +kernel
theorem dX11_tell_178 : decode cX11_tell 178 = .ok (.iload_n 1, 1) := by decide +kernel
theorem dX11_tell_179 : decode cX11_tell 179 = .ok (.iadd, 1) := by decide +kernel
theorem dX11_tell_180 : decode cX11_tell 180 = .ok (.iload_n 2, 1) := by decide +kernel
theorem dX11_tell_181 : decode cX11_tell 181 = .ok (.iastore, 1) := by decide +kernel
theorem dX11_tell_182 : decode cX11_tell 182 = .ok (.goto 118, 3) := by decide +kernel
theorem dX11_tell_185 : decode cX11_tell 185 = .ok (.aload_n 0, 1) := by decide +kernel
theorem dX11_tell_186 : decode cX11_tell 186 = .ok (.invokevirtual 260, 3) := by decide +kernel
theorem dX11_tell_189 : decode cX11_tell 189 = .ok (.aload_n 0, 1) := by decide +kernel
theorem dX11_tell_190 : decode cX11_tell 190 = .ok (.getfield 58, 3) := by decide +kernel
theorem dX11_tell_193 : decode cX11_tell 193 = .ok (.aload_n 0, 1) := by decide +kernel
theorem dX11_tell_194 : decode cX11_tell 194 = .ok (.getfield 272, 3) := by decide +kernel
theorem dX11_tell_197 : decode cX11_tell 197 = .ok (.aload_n 0, 1) := by decide +kernel
theorem dX11_tell_198 : decode cX11_tell 198 = .ok (.iconst 1, 1) := by decide +kernel
theorem dX11_tell_199 : decode cX11_tell 199 = .ok (.iconst 4, 1) := by decide +kernel
theorem dX11_tell_200 : decode cX11_tell 200 = .ok (.invokevirtual 293, 3) := by decide +kernel
theorem dX11_tell_203 : decode cX11_tell 203 = .ok (.iastore, 1) := by decide +kernel
theorem dX11_tell_204 : decode cX11_tell 204 = .ok (.aload_n 0, 1) := by decide +kernel
theorem dX11_tell_205 : decode cX11_tell 205 = .ok (.iconst 4, 1) := by decide +kernel
theorem dX11_tell_206 : decode cX11_tell 206 = .ok (.invokevirtual 297, 3) := by decide +kernel
theorem dX11_tell_209 : decode cX11_tell 209 = .ok (.goto 91, 3) := by decide +kernel
theorem dX11_tell_212 : decode cX11_tell 212 = .ok (.aload_n 0, 1) := by decide +kernel
theorem dX11_tell_213 : decode cX11_tell 213 = .ok (.aload_n 0, 1) := by decide +kernel
theorem dX11_tell_214 : decode cX11_tell 214 = .ok (.getfield 61, 3) := by decide +kernel
theorem dX11_tell_217 : decode cX11_tell 217 = .ok (.aload_n 0, 1) := by decide +kernel
theorem dX11_tell_218 : decode cX11_tell 218 = .ok (.getfield 272, 3) := by decide +kernel
theorem dX11_tell_221 : decode cX11_tell 221 = .ok (.iaload, 1) := by decide +kernel
theorem dX11_tell_222 : decode cX11_tell 222 = .ok (.bipush 8, 2) := by decide +kernel
theorem dX11_tell_224 : decode cX11_tell 224 = .ok (.invokevirtual 300, 3) := by decide +kernel
theorem dX11_tell_227 : decode cX11_tell 227 = .ok (.aload_n 0, 1) := by decide +kernel
theorem dX11_tell_228 : decode cX11_tell 228 = .ok (.getfield 239, 3) := by decide +kernel
theorem dX11_tell_231 : decode cX11_tell 231 = .ok (.ifCond .ne 69, 3) := by decide +kernel
theorem dX11_tell_234 : decode cX11_tell 234 = .ok (.aload_n 0, 1) := by decide +kernel
theorem dX11_tell_235 : decode cX11_tell 235 = .ok (.invokevirtual 307, 3) := by decide +kernel
theorem dX11_tell_238 : decode cX11_tell 238 = .ok (.goto 62, 3) := by decide +kernel
theorem dX11_tell_241 : decode cX11_tell 241 = .ok (.aload_n 0, 1) := by decide +kernel
theorem dX11_tell_242 : decode cX11_tell 242 = .ok (.aload_n 0, 1) := by decide +kernel
theorem dX11_tell_243 : decode cX11_tell 243 = .ok (.getfield 76, 3) := by decide +kernel
theorem dX11_tell_246 : decode cX11_tell 246 = .ok (.aload_n 0, 1) := by decide +kernel
theorem dX11_tell_247 : decode cX11_tell 247 = .ok (.getfield 272, 3) := by decide +kernel
theorem dX11_tell_250 : decode cX11_tell 250 = .ok (.iaload, 1) := by decide +kernel
theorem dX11_tell_251 : decode cX11_tell 251 = .ok (.bipush 8, 2) := by decide +kernel
theorem dX11_tell_253 : decode cX11_tell 253 = .ok (.invokevirtual 300, 3) := by decide +kernel
theorem dX11_tell_256 : decode cX11_tell 256 = .ok (.aload_n 0, 1) := by decide +kernel
theorem dX11_tell_257 : decode cX11_tell 257 = .ok (.getfield 239, 3) := by decide +kernel
theorem dX11_tell_260 : decode cX11_tell 260 = .ok (.ifCond .ne 40, 3) := by decide +kernel
theorem dX11_tell_263 : decode cX11_tell 263 = .ok (.aload_n 0, 1) := by decide +kernel
theorem dX11_tell_264 : decode cX11_tell 264 = .ok (.invokevirtual 310, 3) := by decide +kernel
theorem dX11_tell_267 : decode cX11_tell 267 = .ok (.goto 33, 3) := by decide +kernel
theorem dX11_tell_270 : decode cX11_tell 270 = .ok (.aload_n 0, 1) := by decide +kernel
theorem dX11_tell_271 : decode cX11_tell 271 = .ok (.getfield 20, 3) := by decide +kernel
theorem dX11_tell_274 : decode cX11_tell 274 = .ok (.aload_n 0, 1) := by decide +kernel
theorem dX11_tell_275 : decode cX11_tell 275 = .ok (.getfield 242, 3) := by decide +kernel
theorem dX11_tell_278 : decode cX11_tell 278 = .ok (.iaload, 1) := by decide +kernel
theorem dX11_tell_279 : decode cX11_tell 279 = .ok (.bipush 26, 2) := by decide +kernel
theorem dX11_tell_281 : decode cX11_tell 281 = .ok (.isub, 1) := by decide +kernel
theorem dX11_tell_282 : decode cX11_tell 282 = .ok (.istore_n 1, 1) := by decide +kernel
theorem dX11_tell_283 : decode cX11_tell 283 = .ok (.aload_n 0, 1) := by decide +kernel
theorem dX11_tell_284 : decode cX11_tell 284 = .ok (.invokevirtual 260, 3) := by decide +kernel
theorem dX11_tell_287 : decode cX11_tell 287 = .ok (.aload_n 0, 1) := by decide +kernel
theorem dX11_tell_288 : decode cX11_tell 288 = .ok (.iload_n 1, 1) := by decide +kernel
theorem dX11_tell_289 : decode cX11_tell 289 = .ok (.invokevirtual 313, 3) := by decide +kernel
theorem dX11_tell_292 : decode cX11_tell 292 = .ok (.goto 8, 3) := by decide +kernel
theorem dX11_tell_295 : decode cX11_tell 295 = .ok (.aload_n 0, 1) := by decide +kernel
theorem dX11_tell_296 : decode cX11_tell 296 = .ok (.iconst 1, 1) := by decide +kernel
theorem dX11_tell_297 : decode cX11_tell 297 = .ok (.invokevirtual 254, 3) := by decide +kernel
theorem dX11_tell_300 : decode cX11_tell 300 = .ok (.return_, 1) := by decide +kernel
theorem dX11_bounded_0 : decode cX11_bounded 0 = .ok (.aload_n 0, 1) := by decide +kernel
theorem dX11_bounded_1 : decode cX11_bounded 1 = .ok (.getfield 239, 3) := by decide +kernel
theorem dX11_bounded_4 : decode cX11_bounded 4 = .ok (.ifCond .gt 11, 3) := by decide +kernel
theorem dX11_bounded_7 : decode cX11_bounded 7 = .ok (.aload_n 0, 1) := by decide +kernel
theorem dX11_bounded_8 : decode cX11_bounded 8 = .ok (.iconst 2, 1) := by decide +kernel
theorem dX11_bounded_9 : decode cX11_bounded 9 = .ok (.invokevirtual 257, 3) := by decide +kernel
theorem dX11_bounded_12 : decode cX11_bounded 12 = .ok (.ifCond .ne 10, 3) := by decide +kernel
theorem dX11_bounded_15 : decode cX11_bounded 15 = .ok (.aload_n 0, 1) := by decide +kernel
theorem dX11_bounded_16 : decode cX11_bounded 16 = .ok (.iconst 1, 1) := by decide +kernel
theorem dX11_bounded_17 : decode cX11_bounded 17 = .ok (.invokevirtual 254, 3) := by decide +kernel
theorem dX11_bounded_20 : decode cX11_bounded 20 = .ok (.iload_n 1, 1) := by decide +kernel
theorem dX11_bounded_21 : decode cX11_bounded 21 = .ok (.ireturn, 1) := by decide +kernel
theorem dX11_bounded_22 : decode cX11_bounded 22 = .ok (.aload_n 0, 1) := by decide +kernel
theorem dX11_bounded_23 : decode cX11_bounded 23 = .ok (.getfield 27, 3) := by decide +kernel
theorem dX11_bounded_26 : decode cX11_bounded 26 = .ok (.aload_n 0, 1) := by decide +kernel
theorem dX11_bounded_27 : decode cX11_bounded 27 = .ok (.getfield 242, 3) := by decide +kernel
theorem dX11_bounded_30 : decode cX11_bounded 30 = .ok (.iaload, 1) := by decide +kernel
theorem dX11_bounded_31 : decode cX11_bounded 31 = .ok (.istore_n 3, 1) := by decide +kernel
theorem dX11_bounded_32 : decode cX11_bounded 32 = .ok (.iload_n 3, 1) := by decide +kernel
theorem dX11_bounded_33 : decode cX11_bounded 33 = .ok (.iload_n 1, 1) := by decide +kernel
theorem dX11_bounded_34 : decode cX11_bounded 34 = .ok (.if_icmp .lt 8, 3) := by decide +kernel
theorem dX11_bounded_37 : decode cX11_bounded 37 = .ok (.iload_n 3, 1) := by decide +kernel
theorem dX11_bounded_38 : decode cX11_bounded 38 = .ok (.iload_n 2, 1) := by decide +kernel
theorem dX11_bounded_39 : decode cX11_bounded 39 = .ok (.if_icmp .le 12, 3) := by decide +kernel
theorem dX11_bounded_42 : decode cX11_bounded 42 = .ok (.aload_n 0, 1) := by decide +kernel
theorem dX11_bounded_43 : decode cX11_bounded 43 = .ok (.iconst 5, 1) := by decide +kernel
theorem dX11_bounded_44 : decode cX11_bounded 44 = .ok (.aload_n 0, 1) := by decide +kernel
theorem dX11_bounded_45 : decode cX11_bounded 45 = .ok (.getfield 242, 3) := by decide +kernel
theorem dX11_bounded_48 : decode cX11_bounded 48 = .ok (.invokevirtual 316, 3) := by decide +kernel
theorem dX11_bounded_51 : decode cX11_bounded 51 = .ok (.aload_n 0, 1) := by decide +kernel
theorem dX11_bounded_52 : decode cX11_bounded 52 = .ok (.invokevirtual 260, 3) := by decide +kernel
theorem dX11_bounded_55 : decode cX11_bounded 55 = .ok (.iload_n 3, 1) := by decide +kernel
theorem dX11_bounded_56 : decode cX11_bounded 56 = .ok (.ireturn, 1) := by decide +kernel
theorem dX11_tellDepth_0 : decode cX11_tellDepth 0 = .ok (.aload_n 0, 1) := by decide +kernel
theorem dX11_tellDepth_1 : decode cX11_tellDepth 1 = .ok (.iconst 0, 1) := by decide +kernel
theorem dX11_tellDepth_2 : decode cX11_tellDepth 2 = .ok (.bipush 11, 2) := by decide +kernel
theorem dX11_tellDepth_4 : decode cX11_tellDepth 4 = .ok (.invokevirtual 293, 3) := by decide +kernel
theorem dX11_tellDepth_7 : decode cX11_tellDepth 7 = .ok (.istore_n 1, 1) := by decide +kernel
theorem dX11_tellDepth_8 : decode cX11_tellDepth 8 = .ok (.aload_n 0, 1) := by decide +kernel
theorem dX11_tellDepth_9 : decode cX11_tellDepth 9 = .ok (.iconst 0, 1) := by decide +kernel
theorem dX11_tellDepth_10 : decode cX11_tellDepth 10 = .ok (.bipush 7, 2) := by decide +kernel
theorem dX11_tellDepth_12 : decode cX11_tellDepth 12 = .ok (.invokevirtual 293, 3) := by decide +kernel
theorem dX11_tellDepth_15 : decode cX11_tellDepth 15 = .ok (.istore_n 2, 1) := by decide +kernel
theorem dX11_tellDepth_16 : decode cX11_tellDepth 16 = .ok (.aload_n 0, 1) := by decide +kernel
theorem dX11_tellDepth_17 : decode cX11_tellDepth 17 = .ok (.iconst 0, 1) := by decide +kernel
theorem dX11_tellDepth_18 : decode cX11_tellDepth 18 = .ok (.bipush 9, 2) := by decide +kernel
theorem dX11_tellDepth_20 : decode cX11_tellDepth 20 = .ok (.invokevirtual 293, 3) := by decide +kernel
theorem dX11_tellDepth_23 : decode cX11_tellDepth 23 = .ok (.istore_n 3, 1) := by decide +kernel
theorem dX11_tellDepth_24 : decode cX11_tellDepth 24 = .ok (.aload_n 0, 1) := by decide +kernel
theorem dX11_tellDepth_25 : decode cX11_tellDepth 25 = .ok (.iconst 4, 1) := by decide +kernel
theorem dX11_tellDepth_26 : decode cX11_tellDepth 26 = .ok (.invokevirtual 297, 3) := by decide +kernel
theorem dX11_tellDepth_29 : decode cX11_tellDepth 29 = .ok (.aload_n 0, 1) := by decide +kernel
theorem dX11_tellDepth_30 : decode cX11_tellDepth 30 = .ok (.getfield 239, 3) := by decide +kernel
theorem dX11_tellDepth_33 : decode cX11_tellDepth 33 = .ok (.ifCond .le 4, 3) := by decide +kernel
theorem dX11_tellDepth_36 : decode cX11_tellDepth 36 = .ok (.return_, 1) := by decide +kernel
theorem dX11_tellDepth_37 : decode cX11_tellDepth 37 = .ok (.aload_n 0, 1) := by decide +kernel
theorem dX11_tellDepth_38 : decode cX11_tellDepth 38 = .ok (.getfield 49, 3) := by decide +kernel
theorem dX11_tellDepth_41 : decode cX11_tellDepth 41 = .ok (.aload_n 0, 1) := by decide +kernel
theorem dX11_tellDepth_42 : decode cX11_tellDepth 42 = .ok (.getfield 272, 3) := by decide +kernel
theorem dX11_tellDepth_45 : decode cX11_tellDepth 45 = .ok (.dup2, 1) := by decide +kernel
theorem dX11_tellDepth_46 : decode cX11_tellDepth 46 = .ok (.iaload, 1) := by decide +kernel
theorem dX11_tellDepth_47 : decode cX11_tellDepth 47 = .ok (.iconst 1, 1) := by decide +kernel
theorem dX11_tellDepth_48 : decode cX11_tellDepth 48 = .ok (.iadd, 1) := by decide +kernel
theorem dX11_tellDepth_49 : decode cX11_tellDepth 49 = .ok (.iastore, 1) := by decide +kernel
theorem dX11_tellDepth_50 : decode cX11_tellDepth 50 = .ok (.iload_n 1, 1) := by decide +kernel
theorem dX11_tellDepth_51 : decode cX11_tellDepth 51 = .ok (.bipush 12, 2) := by decide +kernel
theorem dX11_tellDepth_53 : decode cX11_tellDepth 53 = .ok (.if_icmp .ge 29, 3) := by decide +kernel
theorem dX11_tellDepth_56 : decode cX11_tellDepth 56 = .ok (.iload_n 2, 1) := by decide +kernel
theorem dX11_tellDepth_57 : decode cX11_tellDepth 57 = .ok (.bipush 8, 2) := by decide +kernel
theorem dX11_tellDepth_59 : decode cX11_tellDepth 59 = .ok (.if_icmp .ge 23, 3) := by decide +kernel
theorem dX11_tellDepth_62 : decode cX11_tellDepth 62 = .ok (.aload_n 0, 1) := by decide +kernel
theorem dX11_tellDepth_63 : decode cX11_tellDepth 63 = .ok (.getfield 52, 3) := by decide +kernel
theorem dX11_tellDepth_66 : decode cX11_tellDepth 66 = .ok (.bipush 96, 2) := by decide +kernel
theorem dX11_tellDepth_68 : decode cX11_tellDepth 68 = .ok (.aload_n 0, 1) := by decide +kernel
theorem dX11_tellDepth_69 : decode cX11_tellDepth 69 = .ok (.getfield 272, 3) := by decide +kernel
theorem dX11_tellDepth_72 : decode cX11_tellDepth 72 = .ok (.imul, 1) := by decide +kernel
theorem dX11_tellDepth_73 : decode cX11_tellDepth 73 = .ok (.bipush 12, 2) := by decide +kernel
theorem dX11_tellDepth_75 : decode cX11_tellDepth 75 = .ok (.iload_n 2, 1) := by decide +kernel
theorem dX11_tellDepth_76 : decode cX11_tellDepth 76 = .ok (.imul, 1) := by decide +kernel
theorem dX11_tellDepth_77 : decode cX11_tellDepth 77 = .ok (.iadd, 1) := by decide +kernel
theorem dX11_tellDepth_78 : decode cX11_tellDepth 78 = .ok (.iload_n 1, 1) := by decide +kernel
theorem dX11_tellDepth_79 : decode cX11_tellDepth 79 = .ok (.iadd, 1) := by decide +kernel
theorem dX11_tellDepth_80 : decode cX11_tellDepth 80 = .ok (.iload_n 3, 1) := by decide +kernel
theorem dX11_tellDepth_81 : decode cX11_tellDepth 81 = .ok (.iastore, 1) := by decide +kernel
theorem dX11_tellDepth_82 : decode cX11_tellDepth 82 = .ok (.return_, 1) := by decide +kernel
theorem dX11_tellLeaver_0 : decode cX11_tellLeaver 0 = .ok (.bipush 8, 2) := by decide +kernel
theorem dX11_tellLeaver_2 : decode cX11_tellLeaver 2 = .ok (.aload_n 0, 1) := by decide +kernel
theorem dX11_tellLeaver_3 : decode cX11_tellLeaver 3 = .ok (.getfield 272, 3) := by decide +kernel
theorem dX11_tellLeaver_6 : decode cX11_tellLeaver 6 = .ok (.imul, 1) := by decide +kernel
theorem dX11_tellLeaver_7 : decode cX11_tellLeaver 7 = .ok (.aload_n 0, 1) := by decide +kernel
theorem dX11_tellLeaver_8 : decode cX11_tellLeaver 8 = .ok (.getfield 61, 3) := by decide +kernel
theorem dX11_tellLeaver_11 : decode cX11_tellLeaver 11 = .ok (.aload_n 0, 1) := by decide +kernel
theorem dX11_tellLeaver_12 : decode cX11_tellLeaver 12 = .ok (.getfield 272, 3) := by decide +kernel
theorem dX11_tellLeaver_15 : decode cX11_tellLeaver 15 = .ok (.iaload, 1) := by decide +kernel
theorem dX11_tellLeaver_16 : decode cX11_tellLeaver 16 = .ok (.iadd, 1) := by decide +kernel
theorem dX11_tellLeaver_17 : decode cX11_tellLeaver 17 = .ok (.istore_n 1, 1) := by decide +kernel
theorem dX11_tellLeaver_18 : decode cX11_tellLeaver 18 = .ok (.aload_n 0, 1) := by decide +kernel
theorem dX11_tellLeaver_19 : decode cX11_tellLeaver 19 = .ok (.getfield 242, 3) := by decide +kernel
theorem dX11_tellLeaver_22 : decode cX11_tellLeaver 22 = .ok (.istore_n 2, 1) := by decide +kernel
theorem dX11_tellLeaver_23 : decode cX11_tellLeaver 23 = .ok (.aload_n 0, 1) := by decide +kernel
theorem dX11_tellLeaver_24 : decode cX11_tellLeaver 24 = .ok (.iconst 1, 1) := by decide +kernel
theorem dX11_tellLeaver_25 : decode cX11_tellLeaver 25 = .ok (.invokevirtual 297, 3) := by decide +kernel
theorem dX11_tellLeaver_28 : decode cX11_tellLeaver 28 = .ok (.iconst 0, 1) := by decide +kernel
theorem dX11_tellLeaver_29 : decode cX11_tellLeaver 29 = .ok (.istore_n 3, 1) := by decide +kernel
theorem dX11_tellLeaver_30 : decode cX11_tellLeaver 30 = .ok (.iload_n 3, 1) := by decide +kernel
theorem dX11_tellLeaver_31 : decode cX11_tellLeaver 31 = .ok (.aload_n 0, 1) := by decide +kernel
theorem dX11_tellLeaver_32 : decode cX11_tellLeaver 32 = .ok (.getfield 275, 3) := by decide +kernel
theorem dX11_tellLeaver_35 : decode cX11_tellLeaver 35 = .ok (.if_icmp .ge 38, 3) := by decide +kernel
theorem dX11_tellLeaver_38 : decode cX11_tellLeaver 38 = .ok (.aload_n 0, 1) := by decide +kernel
theorem dX11_tellLeaver_39 : decode cX11_tellLeaver 39 = .ok (.getfield 239, 3) := by decide +kernel
theorem dX11_tellLeaver_42 : decode cX11_tellLeaver 42 = .ok (.ifCond .ne 31, 3) := by decide +kernel
theorem dX11_tellLeaver_45 : decode cX11_tellLeaver 45 = .ok (.aload_n 0, 1) := by decide +kernel
theorem dX11_tellLeaver_46 : decode cX11_tellLeaver 46 = .ok (.getfield 40, 3) := by decide +kernel
theorem dX11_tellLeaver_49 : decode cX11_tellLeaver 49 = .ok (.iload_n 3, 1) := by decide +kernel
theorem dX11_tellLeaver_50 : decode cX11_tellLeaver 50 = .ok (.laload, 1) := by decide +kernel
theorem dX11_tellLeaver_51 : decode cX11_tellLeaver 51 = .ok (.aload_n 0, 1) := by decide +kernel
theorem dX11_tellLeaver_52 : decode cX11_tellLeaver 52 = .ok (.getfield 30, 3) := by decide +kernel
theorem dX11_tellLeaver_55 : decode cX11_tellLeaver 55 = .ok (.iload_n 2, 1) := by decide +kernel
theorem dX11_tellLeaver_56 : decode cX11_tellLeaver 56 = .ok (.laload, 1) := by decide +kernel
theorem dX11_tellLeaver_57 : decode cX11_tellLeaver 57 = .ok (.lcmp, 1) := by decide +kernel
theorem dX11_tellLeaver_58 : decode cX11_tellLeaver 58 = .ok (.ifCond .ne 9, 3) := by decide +kernel
theorem dX11_tellLeaver_61 : decode cX11_tellLeaver 61 = .ok (.aload_n 0, 1) := by decide +kernel
theorem dX11_tellLeaver_62 : decode cX11_tellLeaver 62 = .ok (.iconst 3, 1) := by decide +kernel
theorem dX11_tellLeaver_63 : decode cX11_tellLeaver 63 = .ok (.iload_n 2, 1) := by decide +kernel
theorem dX11_tellLeaver_64 : decode cX11_tellLeaver 64 = .ok (.invokevirtual 316, 3) := by decide +kernel
theorem dX11_tellLeaver_67 : decode cX11_tellLeaver 67 = .ok (.iinc 3 1, 3) := by decide +kernel
theorem dX11_tellLeaver_70 : decode cX11_tellLeaver 70 = .ok (.goto (-40), 3) := by decide +kernel
theorem dX11_tellLeaver_73 : decode cX11_tellLeaver 73 = .ok (.aload_n 0, 1) := by decide +kernel
theorem dX11_tellLeaver_74 : decode cX11_tellLeaver 74 = .ok (.getfield 64, 3) := by decide +kernel
theorem dX11_tellLeaver_77 : decode cX11_tellLeaver 77 = .ok (.iload_n 1, 1) := by decide +kernel
theorem dX11_tellLeaver_78 : decode cX11_tellLeaver 78 = .ok (.aload_n 0, 1) := by decide +kernel
theorem dX11_tellLeaver_79 : decode cX11_tellLeaver 79 = .ok (.iconst 0, 1) := by decide +kernel
theorem dX11_tellLeaver_80 : decode cX11_tellLeaver 80 = .ok (.bipush 99, 2) := by decide +kernel
theorem dX11_tellLeaver_82 : decode cX11_tellLeaver 82 = .ok (.invokevirtual 293, 3) := by decide +kernel
theorem dX11_tellLeaver_85 : decode cX11_tellLeaver 85 = .ok (.iastore, 1) := by decide +kernel
theorem dX11_tellLeaver_86 : decode cX11_tellLeaver 86 = .ok (.aload_n 0, 1) := by decide +kernel
theorem dX11_tellLeaver_87 : decode cX11_tellLeaver 87 = .ok (.getfield 67, 3) := by decide +kernel
theorem dX11_tellLeaver_90 : decode cX11_tellLeaver 90 = .ok (.iload_n 1, 1) := by decide +kernel
theorem dX11_tellLeaver_91 : decode cX11_tellLeaver 91 = .ok (.aload_n 0, 1) := by decide +kernel
theorem dX11_tellLeaver_92 : decode cX11_tellLeaver 92 = .ok (.iconst 1, 1) := by decide +kernel
theorem dX11_tellLeaver_93 : decode cX11_tellLeaver 93 = .ok (.bipush 9, 2) := by decide +kernel
theorem dX11_tellLeaver_95 : decode cX11_tellLeaver 95 = .ok (.invokevirtual 293, 3) := by decide +kernel
theorem dX11_tellLeaver_98 : decode cX11_tellLeaver 98 = .ok (.iastore, 1) := by decide +kernel
theorem dX11_tellLeaver_99 : decode cX11_tellLeaver 99 = .ok (.aload_n 0, 1) := by decide +kernel
theorem dX11_tellLeaver_100 : decode cX11_tellLeaver 100 = .ok (.getfield 70, 3) := by decide +kernel
theorem dX11_tellLeaver_103 : decode cX11_tellLeaver 103 = .ok (.iload_n 1, 1) := by decide +kernel
theorem dX11_tellLeaver_104 : decode cX11_tellLeaver 104 = .ok (.aload_n 0, 1) := by decide +kernel
theorem dX11_tellLeaver_105 : decode cX11_tellLeaver 105 = .ok (.iconst 1, 1) := by decide +kernel
theorem dX11_tellLeaver_106 : decode cX11_tellLeaver 106 = .ok (.bipush 9, 2) := by decide +kernel
theorem dX11_tellLeaver_108 : decode cX11_tellLeaver 108 = .ok (.invokevirtual 293, 3) := by decide +kernel
theorem dX11_tellLeaver_111 : decode cX11_tellLeaver 111 = .ok (.iastore, 1) := by decide +kernel
theorem dX11_tellLeaver_112 : decode cX11_tellLeaver 112 = .ok (.aload_n 0, 1) := by decide +kernel
theorem dX11_tellLeaver_113 : decode cX11_tellLeaver 113 = .ok (.getfield 73, 3) := by decide +kernel
theorem dX11_tellLeaver_116 : decode cX11_tellLeaver 116 = .ok (.iload_n 1, 1) := by decide +kernel
theorem dX11_tellLeaver_117 : decode cX11_tellLeaver 117 = .ok (.aload_n 0, 1) := by decide +kernel
theorem dX11_tellLeaver_118 : decode cX11_tellLeaver 118 = .ok (.iconst 0, 1) := by decide +kernel
theorem dX11_tellLeaver_119 : decode cX11_tellLeaver 119 = .ok (.bipush 99, 2) := by decide +kernel
theorem dX11_tellLeaver_121 : decode cX11_tellLeaver 121 = .ok (.invokevirtual 293, 3) := by decide +kernel
theorem dX11_tellLeaver_124 : decode cX11_tellLeaver 124 = .ok (.iastore, 1) := by decide +kernel
theorem dX11_tellLeaver_125 : decode cX11_tellLeaver 125 = .ok (.aload_n 0, 1) := by decide +kernel
theorem dX11_tellLeaver_126 : decode cX11_tellLeaver 126 = .ok (.iconst 4, 1) := by decide +kernel
theorem dX11_tellLeaver_127 : decode cX11_tellLeaver 127 = .ok (.invokevirtual 297, 3) := by decide +kernel
theorem dX11_tellLeaver_130 : decode cX11_tellLeaver 130 = .ok (.aload_n 0, 1) := by decide +kernel
theorem dX11_tellLeaver_131 : decode cX11_tellLeaver 131 = .ok (.getfield 239, 3) := by decide +kernel
theorem dX11_tellLeaver_134 : decode cX11_tellLeaver 134 = .ok (.ifCond .le 4, 3) := by decide +kernel
theorem dX11_tellLeaver_137 : decode cX11_tellLeaver 137 = .ok (.return_, 1) := by decide +kernel
theorem dX11_tellLeaver_138 : decode cX11_tellLeaver 138 = .ok (.aload_n 0, 1) := by decide +kernel
theorem dX11_tellLeaver_139 : decode cX11_tellLeaver 139 = .ok (.getfield 40, 3) := by decide +kernel
theorem dX11_tellLeaver_142 : decode cX11_tellLeaver 142 = .ok (.aload_n 0, 1) := by decide +kernel
theorem dX11_tellLeaver_143 : decode cX11_tellLeaver 143 = .ok (.getfield 275, 3) := by decide +kernel
theorem dX11_tellLeaver_146 : decode cX11_tellLeaver 146 = .ok (.aload_n 0, 1) := by decide +kernel
theorem dX11_tellLeaver_147 : decode cX11_tellLeaver 147 = .ok (.getfield 30, 3) := by decide +kernel
theorem dX11_tellLeaver_150 : decode cX11_tellLeaver 150 = .ok (.iload_n 2, 1) := by decide +kernel
theorem dX11_tellLeaver_151 : decode cX11_tellLeaver 151 = .ok (.laload, 1) := by decide +kernel
theorem dX11_tellLeaver_152 : decode cX11_tellLeaver 152 = .ok (.lastore, 1) := by decide +kernel
theorem dX11_tellLeaver_153 : decode cX11_tellLeaver 153 = .ok (.aload_n 0, 1) := by decide +kernel
theorem dX11_tellLeaver_154 : decode cX11_tellLeaver 154 = .ok (.dup, 1) := by decide +kernel
theorem dX11_tellLeaver_155 : decode cX11_tellLeaver 155 = .ok (.getfield 275, 3) := by decide +kernel
theorem dX11_tellLeaver_158 : decode cX11_tellLeaver 158 = .ok (.iconst 1, 1) := by decide +kernel
theorem dX11_tellLeaver_159 : decode cX11_tellLeaver 159 = .ok (.iadd, 1) := by decide +kernel
theorem dX11_tellLeaver_160 : decode cX11_tellLeaver 160 = .ok (.putfield 275, 3) := by decide +kernel
theorem dX11_tellLeaver_163 : decode cX11_tellLeaver 163 = .ok (.aload_n 0, 1) := by decide +kernel
theorem dX11_tellLeaver_164 : decode cX11_tellLeaver 164 = .ok (.getfield 61, 3) := by decide +kernel
theorem dX11_tellLeaver_167 : decode cX11_tellLeaver 167 = .ok (.aload_n 0, 1) := by decide +kernel
theorem dX11_tellLeaver_168 : decode cX11_tellLeaver 168 = .ok (.getfield 272, 3) := by decide +kernel
theorem dX11_tellLeaver_171 : decode cX11_tellLeaver 171 = .ok (.dup2, 1) := by decide +kernel
theorem dX11_tellLeaver_172 : decode cX11_tellLeaver 172 = .ok (.iaload, 1) := by decide +kernel
theorem dX11_tellLeaver_173 : decode cX11_tellLeaver 173 = .ok (.iconst 1, 1) := by decide +kernel
theorem dX11_tellLeaver_174 : decode cX11_tellLeaver 174 = .ok (.iadd, 1) := by decide +kernel
theorem dX11_tellLeaver_175 : decode cX11_tellLeaver 175 = .ok (.iastore, 1) := by decide +kernel
theorem dX11_tellLeaver_176 : decode cX11_tellLeaver 176 = .ok (.return_, 1) := by decide +kernel
theorem dX11_tellFlood_0 : decode cX11_tellFlood 0 = .ok (.bipush 8, 2) := by decide +kernel
theorem dX11_tellFlood_2 : decode cX11_tellFlood 2 = .ok (.aload_n 0, 1) := by decide +kernel
theorem dX11_tellFlood_3 : decode cX11_tellFlood 3 = .ok (.getfield 272, 3) := by decide +kernel
theorem dX11_tellFlood_6 : decode cX11_tellFlood 6 = .ok (.imul, 1) := by decide +kernel
theorem dX11_tellFlood_7 : decode cX11_tellFlood 7 = .ok (.aload_n 0, 1) := by decide +kernel
theorem dX11_tellFlood_8 : decode cX11_tellFlood 8 = .ok (.getfield 76, 3) := by decide +kernel
theorem dX11_tellFlood_11 : decode cX11_tellFlood 11 = .ok (.aload_n 0, 1) := by decide +kernel
theorem dX11_tellFlood_12 : decode cX11_tellFlood 12 = .ok (.getfield 272, 3) := by decide +kernel
theorem dX11_tellFlood_15 : decode cX11_tellFlood 15 = .ok (.iaload, 1) := by decide +kernel
theorem dX11_tellFlood_16 : decode cX11_tellFlood 16 = .ok (.iadd, 1) := by decide +kernel
theorem dX11_tellFlood_17 : decode cX11_tellFlood 17 = .ok (.istore_n 1, 1) := by decide +kernel
theorem dX11_tellFlood_18 : decode cX11_tellFlood 18 = .ok (.aload_n 0, 1) := by decide +kernel
theorem dX11_tellFlood_19 : decode cX11_tellFlood 19 = .ok (.getfield 79, 3) := by decide +kernel
theorem dX11_tellFlood_22 : decode cX11_tellFlood 22 = .ok (.iload_n 1, 1) := by decide +kernel
theorem dX11_tellFlood_23 : decode cX11_tellFlood 23 = .ok (.aload_n 0, 1) := by decide +kernel
theorem dX11_tellFlood_24 : decode cX11_tellFlood 24 = .ok (.iconst 0, 1) := by decide +kernel
theorem dX11_tellFlood_25 : decode cX11_tellFlood 25 = .ok (.sipush 199, 3) := by decide +kernel
theorem dX11_tellFlood_28 : decode cX11_tellFlood 28 = .ok (.invokevirtual 293, 3) := by decide +kernel
theorem dX11_tellFlood_31 : decode cX11_tellFlood 31 = .ok (.iastore, 1) := by decide +kernel
theorem dX11_tellFlood_32 : decode cX11_tellFlood 32 = .ok (.aload_n 0, 1) := by decide +kernel
theorem dX11_tellFlood_33 : decode cX11_tellFlood 33 = .ok (.getfield 82, 3) := by decide +kernel
theorem dX11_tellFlood_36 : decode cX11_tellFlood 36 = .ok (.iload_n 1, 1) := by decide +kernel
theorem dX11_tellFlood_37 : decode cX11_tellFlood 37 = .ok (.aload_n 0, 1) := by decide +kernel
theorem dX11_tellFlood_38 : decode cX11_tellFlood 38 = .ok (.iconst 1, 1) := by decide +kernel
theorem dX11_tellFlood_39 : decode cX11_tellFlood 39 = .ok (.bipush 12, 2) := by decide +kernel
theorem dX11_tellFlood_41 : decode cX11_tellFlood 41 = .ok (.invokevirtual 293, 3) := by decide +kernel
theorem dX11_tellFlood_44 : decode cX11_tellFlood 44 = .ok (.iastore, 1) := by decide +kernel
theorem dX11_tellFlood_45 : decode cX11_tellFlood 45 = .ok (.aload_n 0, 1) := by decide +kernel
theorem dX11_tellFlood_46 : decode cX11_tellFlood 46 = .ok (.iconst 4, 1) := by decide +kernel
theorem dX11_tellFlood_47 : decode cX11_tellFlood 47 = .ok (.invokevirtual 297, 3) := by decide +kernel
theorem dX11_tellFlood_50 : decode cX11_tellFlood 50 = .ok (.aload_n 0, 1) := by decide +kernel
theorem dX11_tellFlood_51 : decode cX11_tellFlood 51 = .ok (.getfield 239, 3) := by decide +kernel
theorem dX11_tellFlood_54 : decode cX11_tellFlood 54 = .ok (.ifCond .ne 16, 3) := by decide +kernel
theorem dX11_tellFlood_57 : decode cX11_tellFlood 57 = .ok (.aload_n 0, 1) := by decide +kernel
theorem dX11_tellFlood_58 : decode cX11_tellFlood 58 = .ok (.getfield 76, 3) := by decide +kernel
theorem dX11_tellFlood_61 : decode cX11_tellFlood 61 = .ok (.aload_n 0, 1) := by decide +kernel
theorem dX11_tellFlood_62 : decode cX11_tellFlood 62 = .ok (.getfield 272, 3) := by decide +kernel
theorem dX11_tellFlood_65 : decode cX11_tellFlood 65 = .ok (.dup2, 1) := by decide +kernel
theorem dX11_tellFlood_66 : decode cX11_tellFlood 66 = .ok (.iaload, 1) := by decide +kernel
theorem dX11_tellFlood_67 : decode cX11_tellFlood 67 = .ok (.iconst 1, 1) := by decide +kernel
theorem dX11_tellFlood_68 : decode cX11_tellFlood 68 = .ok (.iadd, 1) := by decide +kernel
theorem dX11_tellFlood_69 : decode cX11_tellFlood 69 = .ok (.iastore, 1) := by decide +kernel
theorem dX11_tellFlood_70 : decode cX11_tellFlood 70 = .ok (.return_, 1) := by decide +kernel
theorem dX11_tellLaw_0 : decode cX11_tellLaw 0 = .ok (.aload_n 0, 1) := by decide +kernel
theorem dX11_tellLaw_1 : decode cX11_tellLaw 1 = .ok (.iconst 5, 1) := by decide +kernel
theorem dX11_tellLaw_2 : decode cX11_tellLaw 2 = .ok (.invokevirtual 297, 3) := by decide +kernel
theorem dX11_tellLaw_5 : decode cX11_tellLaw 5 = .ok (.aload_n 0, 1) := by decide +kernel
theorem dX11_tellLaw_6 : decode cX11_tellLaw 6 = .ok (.getfield 278, 3) := by decide +kernel
theorem dX11_tellLaw_9 : decode cX11_tellLaw 9 = .ok (.istore_n 2, 1) := by decide +kernel
theorem dX11_tellLaw_10 : decode cX11_tellLaw 10 = .ok (.iconst 0, 1) := by decide +kernel
theorem dX11_tellLaw_11 : decode cX11_tellLaw 11 = .ok (.istore_n 3, 1) := by decide +kernel
theorem dX11_tellLaw_12 : decode cX11_tellLaw 12 = .ok (.aload_n 0, 1) := by decide +kernel
theorem dX11_tellLaw_13 : decode cX11_tellLaw 13 = .ok (.getfield 239, 3) := by decide +kernel
theorem dX11_tellLaw_16 : decode cX11_tellLaw 16 = .ok (.ifCond .ne 113, 3) := by decide +kernel
theorem dX11_tellLaw_19 : decode cX11_tellLaw 19 = .ok (.aload_n 0, 1) := by decide +kernel
theorem dX11_tellLaw_20 : decode cX11_tellLaw 20 = .ok (.bipush 28, 2) := by decide +kernel
theorem dX11_tellLaw_22 : decode cX11_tellLaw 22 = .ok (.invokevirtual 257, 3) := by decide +kernel
theorem dX11_tellLaw_25 : decode cX11_tellLaw 25 = .ok (.ifCond .eq 104, 3) := by decide +kernel
theorem dX11_tellLaw_28 : decode cX11_tellLaw 28 = .ok (.iload_n 3, 1) := by decide +kernel
theorem dX11_tellLaw_29 : decode cX11_tellLaw 29 = .ok (.iconst 4, 1) := by decide +kernel
theorem dX11_tellLaw_30 : decode cX11_tellLaw 30 = .ok (.if_icmp .ne 8, 3) := by decide +kernel
theorem dX11_tellLaw_33 : decode cX11_tellLaw 33 = .ok (.aload_n 0, 1) := by decide +kernel
theorem dX11_tellLaw_34 : decode cX11_tellLaw 34 = .ok (.iconst 2, 1) := by decide +kernel
theorem dX11_tellLaw_35 : decode cX11_tellLaw 35 = .ok (.invokevirtual 254, 3) := by decide +kernel
theorem dX11_tellLaw_38 : decode cX11_tellLaw 38 = .ok (.aload_n 0, 1) := by decide +kernel
theorem dX11_tellLaw_39 : decode cX11_tellLaw 39 = .ok (.getfield 239, 3) := by decide +kernel
theorem dX11_tellLaw_42 : decode cX11_tellLaw 42 = .ok (.ifCond .le 4, 3) := by decide +kernel
theorem dX11_tellLaw_45 : decode cX11_tellLaw 45 = .ok (.return_, 1) := by decide +kernel
theorem dX11_tellLaw_46 : decode cX11_tellLaw 46 = .ok (.iinc 3 1, 3) := by decide +kernel
theorem dX11_tellLaw_49 : decode cX11_tellLaw 49 = .ok (.aload_n 0, 1) := by decide +kernel
theorem dX11_tellLaw_50 : decode cX11_tellLaw 50 = .ok (.invokevirtual 260, 3) := by decide +kernel
theorem dX11_tellLaw_53 : decode cX11_tellLaw 53 = .ok (.aload_n 0, 1) := by decide +kernel
theorem dX11_tellLaw_54 : decode cX11_tellLaw 54 = .ok (.getfield 91, 3) := by decide +kernel
theorem dX11_tellLaw_57 : decode cX11_tellLaw 57 = .ok (.aload_n 0, 1) := by decide +kernel
theorem dX11_tellLaw_58 : decode cX11_tellLaw 58 = .ok (.getfield 278, 3) := by decide +kernel
theorem dX11_tellLaw_61 : decode cX11_tellLaw 61 = .ok (.iconst 1, 1) := by decide +kernel
theorem dX11_tellLaw_62 : decode cX11_tellLaw 62 = .ok (.bastore, 1) := by decide +kernel
theorem dX11_tellLaw_63 : decode cX11_tellLaw 63 = .ok (.aload_n 0, 1) := by decide +kernel
theorem dX11_tellLaw_64 : decode cX11_tellLaw 64 = .ok (.getfield 95, 3) := by decide +kernel
theorem dX11_tellLaw_67 : decode cX11_tellLaw 67 = .ok (.aload_n 0, 1) := by decide +kernel
theorem dX11_tellLaw_68 : decode cX11_tellLaw 68 = .ok (.getfield 278, 3) := by decide +kernel
theorem dX11_tellLaw_71 : decode cX11_tellLaw 71 = .ok (.aload_n 0, 1) := by decide +kernel
theorem dX11_tellLaw_72 : decode cX11_tellLaw 72 = .ok (.getfield 281, 3) := by decide +kernel
theorem dX11_tellLaw_75 : decode cX11_tellLaw 75 = .ok (.iastore, 1) := by decide +kernel
theorem dX11_tellLaw_76 : decode cX11_tellLaw 76 = .ok (.aload_n 0, 1) := by decide +kernel
theorem dX11_tellLaw_77 : decode cX11_tellLaw 77 = .ok (.invokevirtual 319, 3) := by decide +kernel
theorem dX11_tellLaw_80 : decode cX11_tellLaw 80 = .ok (.aload_n 0, 1) := by decide +kernel
theorem dX11_tellLaw_81 : decode cX11_tellLaw 81 = .ok (.bipush 13, 2) := by decide +kernel
theorem dX11_tellLaw_83 : decode cX11_tellLaw 83 = .ok (.invokevirtual 297, 3) := by decide +kernel
theorem dX11_tellLaw_86 : decode cX11_tellLaw 86 = .ok (.aload_n 0, 1) := by decide +kernel
theorem dX11_tellLaw_87 : decode cX11_tellLaw 87 = .ok (.getfield 98, 3) := by decide +kernel
theorem dX11_tellLaw_90 : decode cX11_tellLaw 90 = .ok (.aload_n 0, 1) := by decide +kernel
theorem dX11_tellLaw_91 : decode cX11_tellLaw 91 = .ok (.getfield 278, 3) := by decide +kernel
theorem dX11_tellLaw_94 : decode cX11_tellLaw 94 = .ok (.aload_n 0, 1) := by decide +kernel
theorem dX11_tellLaw_95 : decode cX11_tellLaw 95 = .ok (.getfield 281, 3) := by decide +kernel
theorem dX11_tellLaw_98 : decode cX11_tellLaw 98 = .ok (.iastore, 1) := by decide +kernel
theorem dX11_tellLaw_99 : decode cX11_tellLaw 99 = .ok (.aload_n 0, 1) := by decide +kernel
theorem dX11_tellLaw_100 : decode cX11_tellLaw 100 = .ok (.getfield 239, 3) := by decide +kernel
theorem dX11_tellLaw_103 : decode cX11_tellLaw 103 = .ok (.ifCond .ne 7, 3) := by decide +kernel
theorem dX11_tellLaw_106 : decode cX11_tellLaw 106 = .ok (.aload_n 0, 1) := by decide +kernel
theorem dX11_tellLaw_107 : decode cX11_tellLaw 107 = .ok (.invokevirtual 319, 3) := by decide +kernel
theorem dX11_tellLaw_110 : decode cX11_tellLaw 110 = .ok (.aload_n 0, 1) := by decide +kernel
theorem dX11_tellLaw_111 : decode cX11_tellLaw 111 = .ok (.bipush 29, 2) := by decide +kernel
theorem dX11_tellLaw_113 : decode cX11_tellLaw 113 = .ok (.invokevirtual 297, 3) := by decide +kernel
theorem dX11_tellLaw_116 : decode cX11_tellLaw 116 = .ok (.aload_n 0, 1) := by decide +kernel
theorem dX11_tellLaw_117 : decode cX11_tellLaw 117 = .ok (.invokevirtual 322, 3) := by decide +kernel
theorem dX11_tellLaw_120 : decode cX11_tellLaw 120 = .ok (.aload_n 0, 1) := by decide +kernel
theorem dX11_tellLaw_121 : decode cX11_tellLaw 121 = .ok (.bipush 30, 2) := by decide +kernel
theorem dX11_tellLaw_123 : decode cX11_tellLaw 123 = .ok (.invokevirtual 297, 3) := by decide +kernel
theorem dX11_tellLaw_126 : decode cX11_tellLaw 126 = .ok (.goto (-114), 3) := by decide +kernel
theorem dX11_tellLaw_129 : decode cX11_tellLaw 129 = .ok (.aload_n 0, 1) := by decide +kernel
theorem dX11_tellLaw_130 : decode cX11_tellLaw 130 = .ok (.getfield 91, 3) := by decide +kernel
theorem dX11_tellLaw_133 : decode cX11_tellLaw 133 = .ok (.aload_n 0, 1) := by decide +kernel
theorem dX11_tellLaw_134 : decode cX11_tellLaw 134 = .ok (.getfield 278, 3) := by decide +kernel
theorem dX11_tellLaw_137 : decode cX11_tellLaw 137 = .ok (.iconst 0, 1) := by decide +kernel
theorem dX11_tellLaw_138 : decode cX11_tellLaw 138 = .ok (.bastore, 1) := by decide +kernel
theorem dX11_tellLaw_139 : decode cX11_tellLaw 139 = .ok (.aload_n 0, 1) := by decide +kernel
theorem dX11_tellLaw_140 : decode cX11_tellLaw 140 = .ok (.invokevirtual 322, 3) := by decide +kernel
theorem dX11_tellLaw_143 : decode cX11_tellLaw 143 = .ok (.aload_n 0, 1) := by decide +kernel
theorem dX11_tellLaw_144 : decode cX11_tellLaw 144 = .ok (.iconst 4, 1) := by decide +kernel
theorem dX11_tellLaw_145 : decode cX11_tellLaw 145 = .ok (.invokevirtual 297, 3) := by decide +kernel
theorem dX11_tellLaw_148 : decode cX11_tellLaw 148 = .ok (.aload_n 0, 1) := by decide +kernel
theorem dX11_tellLaw_149 : decode cX11_tellLaw 149 = .ok (.getfield 239, 3) := by decide +kernel
theorem dX11_tellLaw_152 : decode cX11_tellLaw 152 = .ok (.ifCond .le 4, 3) := by decide +kernel
theorem dX11_tellLaw_155 : decode cX11_tellLaw 155 = .ok (.return_, 1) := by decide +kernel
theorem dX11_tellLaw_156 : decode cX11_tellLaw 156 = .ok (.aload_n 0, 1) := by decide +kernel
theorem dX11_tellLaw_157 : decode cX11_tellLaw 157 = .ok (.getfield 85, 3) := by decide +kernel
theorem dX11_tellLaw_160 : decode cX11_tellLaw 160 = .ok (.iconst 2, 1) := by decide +kernel
theorem dX11_tellLaw_161 : decode cX11_tellLaw 161 = .ok (.aload_n 0, 1) := by decide +kernel
theorem dX11_tellLaw_162 : decode cX11_tellLaw 162 = .ok (.getfield 272, 3) := by decide +kernel
theorem dX11_tellLaw_165 : decode cX11_tellLaw 165 = .ok (.imul, 1) := by decide +kernel
theorem dX11_tellLaw_166 : decode cX11_tellLaw 166 = .ok (.iload_n 1, 1) := by decide +kernel
theorem dX11_tellLaw_167 : decode cX11_tellLaw 167 = .ok (.iadd, 1) := by decide +kernel
theorem dX11_tellLaw_168 : decode cX11_tellLaw 168 = .ok (.iload_n 2, 1) := by decide +kernel
theorem dX11_tellLaw_169 : decode cX11_tellLaw 169 = .ok (.iastore, 1) := by decide +kernel
theorem dX11_tellLaw_170 : decode cX11_tellLaw 170 = .ok (.aload_n 0, 1) := by decide +kernel
theorem dX11_tellLaw_171 : decode cX11_tellLaw 171 = .ok (.getfield 88, 3) := by decide +kernel
theorem dX11_tellLaw_174 : decode cX11_tellLaw 174 = .ok (.iconst 2, 1) := by decide +kernel
theorem dX11_tellLaw_175 : decode cX11_tellLaw 175 = .ok (.aload_n 0, 1) := by decide +kernel
theorem dX11_tellLaw_176 : decode cX11_tellLaw 176 = .ok (.getfield 272, 3) := by decide +kernel
theorem dX11_tellLaw_179 : decode cX11_tellLaw 179 = .ok (.imul, 1) := by decide +kernel
theorem dX11_tellLaw_180 : decode cX11_tellLaw 180 = .ok (.iload_n 1, 1) := by decide +kernel
theorem dX11_tellLaw_181 : decode cX11_tellLaw 181 = .ok (.iadd, 1) := by decide +kernel
theorem dX11_tellLaw_182 : decode cX11_tellLaw 182 = .ok (.aload_n 0, 1) := by decide +kernel
theorem dX11_tellLaw_183 : decode cX11_tellLaw 183 = .ok (.getfield 278, 3) := by decide +kernel
theorem dX11_tellLaw_186 : decode cX11_tellLaw 186 = .ok (.iastore, 1) := by decide +kernel
theorem dX11_tellLaw_187 : decode cX11_tellLaw 187 = .ok (.return_, 1) := by decide +kernel
theorem dX11_term_0 : decode cX11_term 0 = .ok (.aload_n 0, 1) := by decide +kernel
theorem dX11_term_1 : decode cX11_term 1 = .ok (.getfield 101, 3) := by decide +kernel
theorem dX11_term_4 : decode cX11_term 4 = .ok (.aload_n 0, 1) := by decide +kernel
theorem dX11_term_5 : decode cX11_term 5 = .ok (.getfield 278, 3) := by decide +kernel
theorem dX11_term_8 : decode cX11_term 8 = .ok (.aload_n 0, 1) := by decide +kernel
theorem dX11_term_9 : decode cX11_term 9 = .ok (.getfield 281, 3) := by decide +kernel
theorem dX11_term_12 : decode cX11_term 12 = .ok (.iastore, 1) := by decide +kernel
theorem dX11_term_13 : decode cX11_term 13 = .ok (.aload_n 0, 1) := by decide +kernel
theorem dX11_term_14 : decode cX11_term 14 = .ok (.getfield 239, 3) := by decide +kernel
theorem dX11_term_17 : decode cX11_term 17 = .ok (.ifCond .ne 7, 3) := by decide +kernel
theorem dX11_term_20 : decode cX11_term 20 = .ok (.aload_n 0, 1) := by decide +kernel
theorem dX11_term_21 : decode cX11_term 21 = .ok (.invokevirtual 319, 3) := by decide +kernel
theorem dX11_term_24 : decode cX11_term 24 = .ok (.aload_n 0, 1) := by decide +kernel
theorem dX11_term_25 : decode cX11_term 25 = .ok (.getfield 104, 3) := by decide +kernel
theorem dX11_term_28 : decode cX11_term 28 = .ok (.aload_n 0, 1) := by decide +kernel
theorem dX11_term_29 : decode cX11_term 29 = .ok (.getfield 278, 3) := by decide +kernel
theorem dX11_term_32 : decode cX11_term 32 = .ok (.aload_n 0, 1) := by decide +kernel
theorem dX11_term_33 : decode cX11_term 33 = .ok (.getfield 281, 3) := by decide +kernel
theorem dX11_term_36 : decode cX11_term 36 = .ok (.iastore, 1) := by decide +kernel
theorem dX11_term_37 : decode cX11_term 37 = .ok (.aload_n 0, 1) := by decide +kernel
theorem dX11_term_38 : decode cX11_term 38 = .ok (.dup, 1) := by decide +kernel
theorem dX11_term_39 : decode cX11_term 39 = .ok (.getfield 278, 3) := by decide +kernel
theorem dX11_term_42 : decode cX11_term 42 = .ok (.iconst 1, 1) := by decide +kernel
theorem dX11_term_43 : decode cX11_term 43 = .ok (.iadd, 1) := by decide +kernel
theorem dX11_term_44 : decode cX11_term 44 = .ok (.putfield 278, 3) := by decide +kernel
theorem dX11_term_47 : decode cX11_term 47 = .ok (.return_, 1) := by decide +kernel
theorem dX11_emit_0 : decode cX11_emit 0 = .ok (.aload_n 0, 1) := by decide +kernel
theorem dX11_emit_1 : decode cX11_emit 1 = .ok (.getfield 107, 3) := by decide +kernel
theorem dX11_emit_4 : decode cX11_emit 4 = .ok (.aload_n 0, 1) := by decide +kernel
theorem dX11_emit_5 : decode cX11_emit 5 = .ok (.getfield 281, 3) := by decide +kernel
theorem dX11_emit_8 : decode cX11_emit 8 = .ok (.iload_n 1, 1) := by decide +kernel
theorem dX11_emit_9 : decode cX11_emit 9 = .ok (.iastore, 1) := by decide +kernel
theorem dX11_emit_10 : decode cX11_emit 10 = .ok (.aload_n 0, 1) := by decide +kernel
theorem dX11_emit_11 : decode cX11_emit 11 = .ok (.getfield 110, 3) := by decide +kernel
theorem dX11_emit_14 : decode cX11_emit 14 = .ok (.aload_n 0, 1) := by decide +kernel
theorem dX11_emit_15 : decode cX11_emit 15 = .ok (.getfield 281, 3) := by decide +kernel
theorem dX11_emit_18 : decode cX11_emit 18 = .ok (.iload_n 2, 1) := by decide +kernel
theorem dX11_emit_19 : decode cX11_emit 19 = .ok (.iastore, 1) := by decide +kernel
theorem dX11_emit_20 : decode cX11_emit 20 = .ok (.aload_n 0, 1) := by decide +kernel
theorem dX11_emit_21 : decode cX11_emit 21 = .ok (.dup, 1) := by decide +kernel
theorem dX11_emit_22 : decode cX11_emit 22 = .ok (.getfield 281, 3) := by decide +kernel
theorem dX11_emit_25 : decode cX11_emit 25 = .ok (.iconst 1, 1) := by decide +kernel
theorem dX11_emit_26 : decode cX11_emit 26 = .ok (.iadd, 1) := by decide +kernel
theorem dX11_emit_27 : decode cX11_emit 27 = .ok (.putfield 281, 3) := by decide +kernel
theorem dX11_emit_30 : decode cX11_emit 30 = .ok (.return_, 1) := by decide +kernel
theorem dX11_comesOut_0 : decode cX11_comesOut 0 = .ok (.aload_n 0, 1) := by decide +kernel
theorem dX11_comesOut_1 : decode cX11_comesOut 1 = .ok (.getfield 325, 3) := by decide +kernel
theorem dX11_comesOut_4 : decode cX11_comesOut 4 = .ok (.ifCond .le 87, 3) := by decide +kernel
theorem dX11_comesOut_7 : decode cX11_comesOut 7 = .ok (.aload_n 0, 1) := by decide +kernel
theorem dX11_comesOut_8 : decode cX11_comesOut 8 = .ok (.getfield 113, 3) := by decide +kernel
theorem dX11_comesOut_11 : decode cX11_comesOut 11 = .ok (.aload_n 0, 1) := by decide +kernel
theorem dX11_comesOut_12 : decode cX11_comesOut 12 = .ok (.getfield 325, 3) := by decide +kernel
theorem dX11_comesOut_15 : decode cX11_comesOut 15 = .ok (.iconst 1, 1) := by decide +kernel
theorem dX11_comesOut_16 : decode cX11_comesOut 16 = .ok (.isub, 1) := by decide +kernel
theorem dX11_comesOut_17 : decode cX11_comesOut 17 = .ok (.iaload, 1) := by decide +kernel
theorem dX11_comesOut_18 : decode cX11_comesOut 18 = .ok (.istore_n 2, 1) := by decide +kernel
theorem dX11_comesOut_19 : decode cX11_comesOut 19 = .ok (.iload_n 2, 1) := by decide +kernel
theorem dX11_comesOut_20 : decode cX11_comesOut 20 = .ok (.bipush 6, 2) := by decide +kernel
theorem dX11_comesOut_22 : decode cX11_comesOut 22 = .ok (.if_icmp .eq 19, 3) := by decide +kernel
theorem dX11_comesOut_25 : decode cX11_comesOut 25 = .ok (.iload_n 1, 1) := by decide +kernel
theorem dX11_comesOut_26 : decode cX11_comesOut 26 = .ok (.ifCond .eq 16, 3) := by decide +kernel
theorem dX11_comesOut_29 : decode cX11_comesOut 29 = .ok (.iload_n 2, 1) := by decide +kernel
theorem dX11_comesOut_30 : decode cX11_comesOut 30 = .ok (.bipush 8, 2) := by decide +kernel
theorem dX11_comesOut_32 : decode cX11_comesOut 32 = .ok (.if_icmp .eq 9, 3) := by decide +kernel
theorem dX11_comesOut_35 : decode cX11_comesOut 35 = .ok (.iload_n 2, 1) := by decide +kernel
theorem dX11_comesOut_36 : decode cX11_comesOut 36 = .ok (.bipush 9, 2) := by decide +kernel
theorem dX11_comesOut_38 : decode cX11_comesOut 38 = .ok (.if_icmp .ne 4, 3) := by decide +kernel
theorem dX11_comesOut_41 : decode cX11_comesOut 41 = .ok (.return_, 1) := by decide +kernel
theorem dX11_comesOut_42 : decode cX11_comesOut 42 = .ok (.aload_n 0, 1) := by decide +kernel
theorem dX11_comesOut_43 : decode cX11_comesOut 43 = .ok (.dup, 1) := by decide +kernel
theorem dX11_comesOut_44 : decode cX11_comesOut 44 = .ok (.getfield 325, 3) := by decide +kernel
theorem dX11_comesOut_47 : decode cX11_comesOut 47 = .ok (.iconst 1, 1) := by decide +kernel
theorem dX11_comesOut_48 : decode cX11_comesOut 48 = .ok (.isub, 1) := by decide +kernel
theorem dX11_comesOut_49 : decode cX11_comesOut 49 = .ok (.putfield 325, 3) := by decide +kernel
theorem dX11_comesOut_52 : decode cX11_comesOut 52 = .ok (.aload_n 0, 1) := by decide +kernel
theorem dX11_comesOut_53 : decode cX11_comesOut 53 = .ok (.iload_n 2, 1) := by decide +kernel
theorem dX11_comesOut_54 : decode cX11_comesOut 54 = .ok (.bipush 8, 2) := by decide +kernel
theorem dX11_comesOut_56 : decode cX11_comesOut 56 = .ok (.if_icmp .ne 7, 3) := by decide +kernel
theorem dX11_comesOut_59 : decode cX11_comesOut 59 = .ok (.iconst 2, 1) := by decide +kernel
theorem dX11_comesOut_60 : decode cX11_comesOut 60 = .ok (.goto 24, 3) := by decide +kernel
theorem dX11_comesOut_63 : decode cX11_comesOut 63 = .ok (.iload_n 2, 1) := by decide +kernel
theorem dX11_comesOut_64 : decode cX11_comesOut 64 = .ok (.bipush 9, 2) := by decide +kernel
theorem dX11_comesOut_66 : decode cX11_comesOut 66 = .ok (.if_icmp .ne 7, 3) := by decide +kernel
theorem dX11_comesOut_69 : decode cX11_comesOut 69 = .ok (.iconst 3, 1) := by decide +kernel
theorem dX11_comesOut_70 : decode cX11_comesOut 70 = .ok (.goto 14, 3) := by decide +kernel
theorem dX11_comesOut_73 : decode cX11_comesOut 73 = .ok (.iload_n 2, 1) := by decide +kernel
theorem dX11_comesOut_74 : decode cX11_comesOut 74 = .ok (.bipush 10, 2) := by decide +kernel
theorem dX11_comesOut_76 : decode cX11_comesOut 76 = .ok (.if_icmp .ne 7, 3) := by decide +kernel
theorem dX11_comesOut_79 : decode cX11_comesOut 79 = .ok (.iconst 4, 1) := by decide +kernel
theorem dX11_comesOut_80 : decode cX11_comesOut 80 = .ok (.goto 4, 3) := by decide +kernel
theorem dX11_comesOut_83 : decode cX11_comesOut 83 = .ok (.iconst 5, 1) := by decide +kernel
theorem dX11_comesOut_84 : decode cX11_comesOut 84 = .ok (.iconst 0, 1) := by decide +kernel
theorem dX11_comesOut_85 : decode cX11_comesOut 85 = .ok (.invokevirtual 328, 3) := by decide +kernel
theorem dX11_comesOut_88 : decode cX11_comesOut 88 = .ok (.goto (-88), 3) := by decide +kernel
theorem dX11_comesOut_91 : decode cX11_comesOut 91 = .ok (.return_, 1) := by decide +kernel
theorem dX11_expression_0 : decode cX11_expression 0 = .ok (.aload_n 0, 1) := by decide +kernel
theorem dX11_expression_1 : decode cX11_expression 1 = .ok (.iconst 0, 1) := by decide +kernel
theorem dX11_expression_2 : decode cX11_expression 2 = .ok (.putfield 325, 3) := by decide +kernel
theorem dX11_expression_5 : decode cX11_expression 5 = .ok (.aload_n 0, 1) := by decide +kernel
theorem dX11_expression_6 : decode cX11_expression 6 = .ok (.getfield 266, 3) := by decide +kernel
theorem dX11_expression_9 : decode cX11_expression 9 = .ok (.istore_n 1, 1) := by decide +kernel
theorem dX11_expression_10 : decode cX11_expression 10 = .ok (.iconst 1, 1) := by decide +kernel
theorem dX11_expression_11 : decode cX11_expression 11 = .ok (.istore_n 2, 1) := by decide +kernel
theorem dX11_expression_12 : decode cX11_expression 12 = .ok (.iload_n 2, 1) := by decide +kernel
theorem dX11_expression_13 : decode cX11_expression 13 = .ok (.ifCond .eq 259, 3) := by decide +kernel
theorem dX11_expression_16 : decode cX11_expression 16 = .ok (.aload_n 0, 1) := by decide +kernel
theorem dX11_expression_17 : decode cX11_expression 17 = .ok (.getfield 239, 3) := by decide +kernel
theorem dX11_expression_20 : decode cX11_expression 20 = .ok (.ifCond .ne 252, 3) := by decide +kernel
theorem dX11_expression_23 : decode cX11_expression 23 = .ok (.aload_n 0, 1) := by decide +kernel
theorem dX11_expression_24 : decode cX11_expression 24 = .ok (.bipush 6, 2) := by decide +kernel
theorem dX11_expression_26 : decode cX11_expression 26 = .ok (.invokevirtual 257, 3) := by decide +kernel
theorem dX11_expression_29 : decode cX11_expression 29 = .ok (.ifCond .eq 55, 3) := by decide +kernel
theorem dX11_expression_32 : decode cX11_expression 32 = .ok (.aload_n 0, 1) := by decide +kernel
theorem dX11_expression_33 : decode cX11_expression 33 = .ok (.getfield 266, 3) := by decide +kernel
theorem dX11_expression_36 : decode cX11_expression 36 = .ok (.bipush 6, 2) := by decide +kernel
theorem dX11_expression_38 : decode cX11_expression 38 = .ok (.if_icmp .ne 8, 3) := by decide +kernel
theorem dX11_expression_41 : decode cX11_expression 41 = .ok (.aload_n 0, 1) := by decide +kernel
theorem dX11_expression_42 : decode cX11_expression 42 = .ok (.iconst 2, 1) := by decide +kernel
theorem dX11_expression_43 : decode cX11_expression 43 = .ok (.invokevirtual 254, 3) := by decide +kernel
theorem dX11_expression_46 : decode cX11_expression 46 = .ok (.aload_n 0, 1) := by decide +kernel
theorem dX11_expression_47 : decode cX11_expression 47 = .ok (.dup, 1) := by decide +kernel
theorem dX11_expression_48 : decode cX11_expression 48 = .ok (.getfield 266, 3) := by decide +kernel
theorem dX11_expression_51 : decode cX11_expression 51 = .ok (.iconst 1, 1) := by decide +kernel
theorem dX11_expression_52 : decode cX11_expression 52 = .ok (.iadd, 1) := by decide +kernel
theorem dX11_expression_53 : decode cX11_expression 53 = .ok (.putfield 266, 3) := by decide +kernel
theorem dX11_expression_56 : decode cX11_expression 56 = .ok (.aload_n 0, 1) := by decide +kernel
theorem dX11_expression_57 : decode cX11_expression 57 = .ok (.invokevirtual 260, 3) := by decide +kernel
theorem dX11_expression_60 : decode cX11_expression 60 = .ok (.aload_n 0, 1) := by decide +kernel
theorem dX11_expression_61 : decode cX11_expression 61 = .ok (.getfield 113, 3) := by decide +kernel
theorem dX11_expression_64 : decode cX11_expression 64 = .ok (.aload_n 0, 1) := by decide +kernel
theorem dX11_expression_65 : decode cX11_expression 65 = .ok (.getfield 325, 3) := by decide +kernel
theorem dX11_expression_68 : decode cX11_expression 68 = .ok (.bipush 6, 2) := by decide +kernel
theorem dX11_expression_70 : decode cX11_expression 70 = .ok (.iastore, 1) := by decide +kernel
theorem dX11_expression_71 : decode cX11_expression 71 = .ok (.aload_n 0, 1) := by decide +kernel
theorem dX11_expression_72 : decode cX11_expression 72 = .ok (.dup, 1) := by decide +kernel
theorem dX11_expression_73 : decode cX11_expression 73 = .ok (.getfield 325, 3) := by decide +kernel
theorem dX11_expression_76 : decode cX11_expression 76 = .ok (.iconst 1, 1) := by decide +kernel
theorem dX11_expression_77 : decode cX11_expression 77 = .ok (.iadd, 1) := by decide +kernel
theorem dX11_expression_78 : decode cX11_expression 78 = .ok (.putfield 325, 3) := by decide +kernel
theorem dX11_expression_81 : decode cX11_expression 81 = .ok (.goto (-58), 3) := by decide +kernel
theorem dX11_expression_84 : decode cX11_expression 84 = .ok (.aload_n 0, 1) := by decide +kernel
theorem dX11_expression_85 : decode cX11_expression 85 = .ok (.invokevirtual 331, 3) := by decide +kernel
theorem dX11_expression_88 : decode cX11_expression 88 = .ok (.aload_n 0, 1) := by decide +kernel
theorem dX11_expression_89 : decode cX11_expression 89 = .ok (.getfield 239, 3) := by decide +kernel
theorem dX11_expression_92 : decode cX11_expression 92 = .ok (.ifCond .le 4, 3) := by decide +kernel
theorem dX11_expression_95 : decode cX11_expression 95 = .ok (.return_, 1) := by decide +kernel
theorem dX11_expression_96 : decode cX11_expression 96 = .ok (.aload_n 0, 1) := by decide +kernel
theorem dX11_expression_97 : decode cX11_expression 97 = .ok (.bipush 7, 2) := by decide +kernel
theorem dX11_expression_99 : decode cX11_expression 99 = .ok (.invokevirtual 257, 3) := by decide +kernel
theorem dX11_expression_102 : decode cX11_expression 102 = .ok (.ifCond .eq 43, 3) := by decide +kernel
theorem dX11_expression_105 : decode cX11_expression 105 = .ok (.aload_n 0, 1) := by decide +kernel
theorem dX11_expression_106 : decode cX11_expression 106 = .ok (.getfield 266, 3) := by decide +kernel
theorem dX11_expression_109 : decode cX11_expression 109 = .ok (.iload_n 1, 1) := by decide +kernel
theorem dX11_expression_110 : decode cX11_expression 110 = .ok (.if_icmp .le 35, 3) := by decide +kernel
theorem dX11_expression_113 : decode cX11_expression 113 = .ok (.aload_n 0, 1) := by decide +kernel
theorem dX11_expression_114 : decode cX11_expression 114 = .ok (.iconst 0, 1) := by decide +kernel
theorem dX11_expression_115 : decode cX11_expression 115 = .ok (.invokevirtual 334, 3) := by decide +kernel
theorem dX11_expression_118 : decode cX11_expression 118 = .ok (.aload_n 0, 1) := by decide +kernel
theorem dX11_expression_119 : decode cX11_expression 119 = .ok (.dup, 1) := by decide +kernel
theorem dX11_expression_120 : decode cX11_expression 120 = .ok (.getfield 325, 3) := by decide +kernel
theorem dX11_expression_123 : decode cX11_expression 123 = .ok (.iconst 1, 1) := by decide +kernel
theorem dX11_expression_124 : decode cX11_expression 124 = .ok (.isub, 1) := by decide +kernel
theorem dX11_expression_125 : decode cX11_expression 125 = .ok (.putfield 325, 3) := by decide +kernel
theorem dX11_expression_128 : decode cX11_expression 128 = .ok (.aload_n 0, 1) := by decide +kernel
theorem dX11_expression_129 : decode cX11_expression 129 = .ok (.dup, 1) := by decide +kernel
theorem dX11_expression_130 : decode cX11_expression 130 = .ok (.getfield 266, 3) := by decide +kernel
theorem dX11_expression_133 : decode cX11_expression 133 = .ok (.iconst 1, 1) := by decide +kernel
theorem dX11_expression_134 : decode cX11_expression 134 = .ok (.isub, 1) := by decide +kernel
theorem dX11_expression_135 : decode cX11_expression 135 = .ok (.putfield 266, 3) := by decide +kernel
theorem dX11_expression_138 : decode cX11_expression 138 = .ok (.aload_n 0, 1) := by decide +kernel
theorem dX11_expression_139 : decode cX11_expression 139 = .ok (.invokevirtual 260, 3) := by decide +kernel
theorem dX11_expression_142 : decode cX11_expression 142 = .ok (.goto (-46), 3) := by decide +kernel
theorem dX11_expression_145 : decode cX11_expression 145 = .ok (.aload_n 0, 1) := by decide +kernel
theorem dX11_expression_146 : decode cX11_expression 146 = .ok (.bipush 8, 2) := by decide +kernel
theorem dX11_expression_148 : decode cX11_expression 148 = .ok (.invokevirtual 257, 3) := by decide +kernel
theorem dX11_expression_151 : decode cX11_expression 151 = .ok (.ifCond .ne 30, 3) := by decide +kernel
theorem dX11_expression_154 : decode cX11_expression 154 = .ok (.aload_n 0, 1) := by decide +kernel
theorem dX11_expression_155 : decode cX11_expression 155 = .ok (.bipush 9, 2) := by decide +kernel
theorem dX11_expression_157 : decode cX11_expression 157 = .ok (.invokevirtual 257, 3) := by decide +kernel
theorem dX11_expression_160 : decode cX11_expression 160 = .ok (.ifCond .ne 21, 3) := by decide +kernel
theorem dX11_expression_163 : decode cX11_expression 163 = .ok (.aload_n 0, 1) := by decide +kernel
theorem dX11_expression_164 : decode cX11_expression 164 = .ok (.bipush 10, 2) := by decide +kernel
theorem dX11_expression_166 : decode cX11_expression 166 = .ok (.invokevirtual 257, 3) := by decide +kernel
theorem dX11_expression_169 : decode cX11_expression 169 = .ok (.ifCond .ne 12, 3) := by decide +kernel
theorem dX11_expression_172 : decode cX11_expression 172 = .ok (.aload_n 0, 1) := by decide +kernel
theorem dX11_expression_173 : decode cX11_expression 173 = .ok (.bipush 15, 2) := by decide +kernel
theorem dX11_expression_175 : decode cX11_expression 175 = .ok (.invokevirtual 257, 3) := by decide +kernel
theorem dX11_expression_178 : decode cX11_expression 178 = .ok (.ifCond .eq 7, 3) := by decide +kernel
theorem dX11_expression_181 : decode cX11_expression 181 = .ok (.iconst 1, 1) := by decide +kernel
theorem dX11_expression_182 : decode cX11_expression 182 = .ok (.goto 4, 3) := by decide +kernel
theorem dX11_expression_185 : decode cX11_expression 185 = .ok (.iconst 0, 1) := by decide +kernel
theorem dX11_expression_186 : decode cX11_expression 186 = .ok (.istore_n 2, 1) := by decide +kernel
theorem dX11_expression_187 : decode cX11_expression 187 = .ok (.iload_n 2, 1) := by decide +kernel
theorem dX11_expression_188 : decode cX11_expression 188 = .ok (.ifCond .ne 22, 3) := by decide +kernel
theorem dX11_expression_191 : decode cX11_expression 191 = .ok (.aload_n 0, 1) := by decide +kernel
theorem dX11_expression_192 : decode cX11_expression 192 = .ok (.getfield 266, 3) := by decide +kernel
theorem dX11_expression_195 : decode cX11_expression 195 = .ok (.iload_n 1, 1) := by decide +kernel
theorem dX11_expression_196 : decode cX11_expression 196 = .ok (.if_icmp .le 8, 3) := by decide +kernel
theorem dX11_expression_199 : decode cX11_expression 199 = .ok (.aload_n 0, 1) := by decide +kernel
theorem dX11_expression_200 : decode cX11_expression 200 = .ok (.iconst 1, 1) := by decide +kernel
theorem dX11_expression_201 : decode cX11_expression 201 = .ok (.invokevirtual 254, 3) := by decide +kernel
theorem dX11_expression_204 : decode cX11_expression 204 = .ok (.aload_n 0, 1) := by decide +kernel
theorem dX11_expression_205 : decode cX11_expression 205 = .ok (.iconst 0, 1) := by decide +kernel
theorem dX11_expression_206 : decode cX11_expression 206 = .ok (.invokevirtual 334, 3) := by decide +kernel
theorem dX11_expression_209 : decode cX11_expression 209 = .ok (.return_, 1) := by decide +kernel
theorem dX11_expression_210 : decode cX11_expression 210 = .ok (.aload_n 0, 1) := by decide +kernel
theorem dX11_expression_211 : decode cX11_expression 211 = .ok (.aload_n 0, 1) := by decide +kernel
theorem dX11_expression_212 : decode cX11_expression 212 = .ok (.bipush 10, 2) := by decide +kernel
theorem dX11_expression_214 : decode cX11_expression 214 = .ok (.invokevirtual 257, 3) := by decide +kernel
theorem dX11_expression_217 : decode cX11_expression 217 = .ok (.ifCond .ne 12, 3) := by decide +kernel
theorem dX11_expression_220 : decode cX11_expression 220 = .ok (.aload_n 0, 1) := by decide +kernel
theorem dX11_expression_221 : decode cX11_expression 221 = .ok (.bipush 15, 2) := by decide +kernel
theorem dX11_expression_223 : decode cX11_expression 223 = .ok (.invokevirtual 257, 3) := by decide +kernel
theorem dX11_expression_226 : decode cX11_expression 226 = .ok (.ifCond .eq 7, 3) := by decide +kernel
theorem dX11_expression_229 : decode cX11_expression 229 = .ok (.iconst 1, 1) := by decide +kernel
theorem dX11_expression_230 : decode cX11_expression 230 = .ok (.goto 4, 3) := by decide +kernel
theorem dX11_expression_233 : decode cX11_expression 233 = .ok (.iconst 0, 1) := by decide +kernel
theorem dX11_expression_234 : decode cX11_expression 234 = .ok (.invokevirtual 334, 3) := by decide +kernel
theorem dX11_expression_237 : decode cX11_expression 237 = .ok (.aload_n 0, 1) := by decide +kernel
theorem dX11_expression_238 : decode cX11_expression 238 = .ok (.getfield 113, 3) := by decide +kernel
theorem dX11_expression_241 : decode cX11_expression 241 = .ok (.aload_n 0, 1) := by decide +kernel
theorem dX11_expression_242 : decode cX11_expression 242 = .ok (.getfield 325, 3) := by decide +kernel
theorem dX11_expression_245 : decode cX11_expression 245 = .ok (.aload_n 0, 1) := by decide +kernel
theorem dX11_expression_246 : decode cX11_expression 246 = .ok (.getfield 20, 3) := by decide +kernel
theorem dX11_expression_249 : decode cX11_expression 249 = .ok (.aload_n 0, 1) := by decide +kernel
theorem dX11_expression_250 : decode cX11_expression 250 = .ok (.getfield 242, 3) := by decide +kernel
theorem dX11_expression_253 : decode cX11_expression 253 = .ok (.iaload, 1) := by decide +kernel
theorem dX11_expression_254 : decode cX11_expression 254 = .ok (.iastore, 1) := by decide +kernel
theorem dX11_expression_255 : decode cX11_expression 255 = .ok (.aload_n 0, 1) := by decide +kernel
theorem dX11_expression_256 : decode cX11_expression 256 = .ok (.dup, 1) := by decide +kernel
theorem dX11_expression_257 : decode cX11_expression 257 = .ok (.getfield 325, 3) := by decide +kernel
theorem dX11_expression_260 : decode cX11_expression 260 = .ok (.iconst 1, 1) := by decide +kernel
theorem dX11_expression_261 : decode cX11_expression 261 = .ok (.iadd, 1) := by decide +kernel
theorem dX11_expression_262 : decode cX11_expression 262 = .ok (.putfield 325, 3) := by decide +kernel
theorem dX11_expression_265 : decode cX11_expression 265 = .ok (.aload_n 0, 1) := by decide +kernel
theorem dX11_expression_266 : decode cX11_expression 266 = .ok (.invokevirtual 260, 3) := by decide +kernel
theorem dX11_expression_269 : decode cX11_expression 269 = .ok (.goto (-257), 3) := by decide +kernel
theorem dX11_expression_272 : decode cX11_expression 272 = .ok (.return_, 1) := by decide +kernel
theorem dX11_unit_0 : decode cX11_unit 0 = .ok (.aload_n 0, 1) := by decide +kernel
theorem dX11_unit_1 : decode cX11_unit 1 = .ok (.iconst 2, 1) := by decide +kernel
theorem dX11_unit_2 : decode cX11_unit 2 = .ok (.invokevirtual 257, 3) := by decide +kernel
theorem dX11_unit_5 : decode cX11_unit 5 = .ok (.ifCond .eq 24, 3) := by decide +kernel
theorem dX11_unit_8 : decode cX11_unit 8 = .ok (.aload_n 0, 1) := by decide +kernel
theorem dX11_unit_9 : decode cX11_unit 9 = .ok (.iconst 0, 1) := by decide +kernel
theorem dX11_unit_10 : decode cX11_unit 10 = .ok (.aload_n 0, 1) := by decide +kernel
theorem dX11_unit_11 : decode cX11_unit 11 = .ok (.getfield 27, 3) := by decide +kernel
theorem dX11_unit_14 : decode cX11_unit 14 = .ok (.aload_n 0, 1) := by decide +kernel
theorem dX11_unit_15 : decode cX11_unit 15 = .ok (.getfield 242, 3) := by decide +kernel
theorem dX11_unit_18 : decode cX11_unit 18 = .ok (.iaload, 1) := by decide +kernel
theorem dX11_unit_19 : decode cX11_unit 19 = .ok (.invokevirtual 328, 3) := by decide +kernel
theorem dX11_unit_22 : decode cX11_unit 22 = .ok (.aload_n 0, 1) := by decide +kernel
theorem dX11_unit_23 : decode cX11_unit 23 = .ok (.invokevirtual 260, 3) := by decide +kernel
theorem dX11_unit_26 : decode cX11_unit 26 = .ok (.goto 67, 3) := by decide +kernel
theorem dX11_unit_29 : decode cX11_unit 29 = .ok (.aload_n 0, 1) := by decide +kernel
theorem dX11_unit_30 : decode cX11_unit 30 = .ok (.getfield 239, 3) := by decide +kernel
theorem dX11_unit_33 : decode cX11_unit 33 = .ok (.ifCond .ne 55, 3) := by decide +kernel
theorem dX11_unit_36 : decode cX11_unit 36 = .ok (.aload_n 0, 1) := by decide +kernel
theorem dX11_unit_37 : decode cX11_unit 37 = .ok (.getfield 20, 3) := by decide +kernel
theorem dX11_unit_40 : decode cX11_unit 40 = .ok (.aload_n 0, 1) := by decide +kernel
theorem dX11_unit_41 : decode cX11_unit 41 = .ok (.getfield 242, 3) := by decide +kernel
theorem dX11_unit_44 : decode cX11_unit 44 = .ok (.iaload, 1) := by decide +kernel
theorem dX11_unit_45 : decode cX11_unit 45 = .ok (.bipush 31, 2) := by decide +kernel
theorem dX11_unit_47 : decode cX11_unit 47 = .ok (.if_icmp .lt 41, 3) := by decide +kernel
theorem dX11_unit_50 : decode cX11_unit 50 = .ok (.aload_n 0, 1) := by decide +kernel
theorem dX11_unit_51 : decode cX11_unit 51 = .ok (.getfield 20, 3) := by decide +kernel
theorem dX11_unit_54 : decode cX11_unit 54 = .ok (.aload_n 0, 1) := by decide +kernel
theorem dX11_unit_55 : decode cX11_unit 55 = .ok (.getfield 242, 3) := by decide +kernel
theorem dX11_unit_58 : decode cX11_unit 58 = .ok (.iaload, 1) := by decide +kernel
theorem dX11_unit_59 : decode cX11_unit 59 = .ok (.bipush 36, 2) := by decide +kernel
theorem dX11_unit_61 : decode cX11_unit 61 = .ok (.if_icmp .gt 27, 3) := by decide +kernel
theorem dX11_unit_64 : decode cX11_unit 64 = .ok (.aload_n 0, 1) := by decide +kernel
theorem dX11_unit_65 : decode cX11_unit 65 = .ok (.iconst 1, 1) := by decide +kernel
theorem dX11_unit_66 : decode cX11_unit 66 = .ok (.aload_n 0, 1) := by decide +kernel
theorem dX11_unit_67 : decode cX11_unit 67 = .ok (.getfield 20, 3) := by decide +kernel
theorem dX11_unit_70 : decode cX11_unit 70 = .ok (.aload_n 0, 1) := by decide +kernel
theorem dX11_unit_71 : decode cX11_unit 71 = .ok (.getfield 242, 3) := by decide +kernel
theorem dX11_unit_74 : decode cX11_unit 74 = .ok (.iaload, 1) := by decide +kernel
theorem dX11_unit_75 : decode cX11_unit 75 = .ok (.bipush 31, 2) := by decide +kernel
theorem dX11_unit_77 : decode cX11_unit 77 = .ok (.isub, 1) := by decide +kernel
theorem dX11_unit_78 : decode cX11_unit 78 = .ok (.invokevirtual 328, 3) := by decide +kernel
theorem dX11_unit_81 : decode cX11_unit 81 = .ok (.aload_n 0, 1) := by decide +kernel
theorem dX11_unit_82 : decode cX11_unit 82 = .ok (.invokevirtual 260, 3) := by decide +kernel
theorem dX11_unit_85 : decode cX11_unit 85 = .ok (.goto 8, 3) := by decide +kernel
theorem dX11_unit_88 : decode cX11_unit 88 = .ok (.aload_n 0, 1) := by decide +kernel
theorem dX11_unit_89 : decode cX11_unit 89 = .ok (.iconst 1, 1) := by decide +kernel
theorem dX11_unit_90 : decode cX11_unit 90 = .ok (.invokevirtual 254, 3) := by decide +kernel
theorem dX11_unit_93 : decode cX11_unit 93 = .ok (.return_, 1) := by decide +kernel
theorem dX11_termOf_0 : decode cX11_termOf 0 = .ok (.iconst 0, 1) := by decide +kernel
theorem dX11_termOf_1 : decode cX11_termOf 1 = .ok (.istore_n 3, 1) := by decide +kernel
theorem dX11_termOf_2 : decode cX11_termOf 2 = .ok (.iload_n 1, 1) := by decide +kernel
theorem dX11_termOf_3 : decode cX11_termOf 3 = .ok (.istore 4, 2) := by decide +kernel
theorem dX11_termOf_5 : decode cX11_termOf 5 = .ok (.iload 4, 2) := by decide +kernel
theorem dX11_termOf_7 : decode cX11_termOf 7 = .ok (.iload_n 2, 1) := by decide +kernel
theorem dX11_termOf_8 : decode cX11_termOf 8 = .ok (.if_icmp .ge 157, 3) := by decide +kernel
theorem dX11_termOf_11 : decode cX11_termOf 11 = .ok (.aload_n 0, 1) := by decide +kernel
theorem dX11_termOf_12 : decode cX11_termOf 12 = .ok (.getfield 107, 3) := by decide +kernel
theorem dX11_termOf_15 : decode cX11_termOf 15 = .ok (.iload 4, 2) := by decide +kernel
theorem dX11_termOf_17 : decode cX11_termOf 17 = .ok (.iaload, 1) := by decide +kernel
theorem dX11_termOf_18 : decode cX11_termOf 18 = .ok (.istore 5, 2) := by decide +kernel
theorem dX11_termOf_20 : decode cX11_termOf 20 = .ok (.iload 5, 2) := by decide +kernel
theorem dX11_termOf_22 : decode cX11_termOf 22 = .ok (.iconst 2, 1) := by decide +kernel
theorem dX11_termOf_23 : decode cX11_termOf 23 = .ok (.if_icmp .ge 42, 3) := by decide +kernel
theorem dX11_termOf_26 : decode cX11_termOf 26 = .ok (.aload_n 0, 1) := by decide +kernel
theorem dX11_termOf_27 : decode cX11_termOf 27 = .ok (.getfield 119, 3) := by decide +kernel
theorem dX11_termOf_30 : decode cX11_termOf 30 = .ok (.iload_n 3, 1) := by decide +kernel
theorem dX11_termOf_31 : decode cX11_termOf 31 = .ok (.iload 5, 2) := by decide +kernel
theorem dX11_termOf_33 : decode cX11_termOf 33 = .ok (.ifCond .ne 13, 3) := by decide +kernel
theorem dX11_termOf_36 : decode cX11_termOf 36 = .ok (.aload_n 0, 1) := by decide +kernel
theorem dX11_termOf_37 : decode cX11_termOf 37 = .ok (.getfield 110, 3) := by decide +kernel
theorem dX11_termOf_40 : decode cX11_termOf 40 = .ok (.iload 4, 2) := by decide +kernel
theorem dX11_termOf_42 : decode cX11_termOf 42 = .ok (.iaload, 1) := by decide +kernel
theorem dX11_termOf_43 : decode cX11_termOf 43 = .ok (.goto 15, 3) := by decide +kernel
theorem dX11_termOf_46 : decode cX11_termOf 46 = .ok (.aload_n 0, 1) := by decide +kernel
theorem dX11_termOf_47 : decode cX11_termOf 47 = .ok (.getfield 116, 3) := by decide +kernel
theorem dX11_termOf_50 : decode cX11_termOf 50 = .ok (.aload_n 0, 1) := by decide +kernel
theorem dX11_termOf_51 : decode cX11_termOf 51 = .ok (.getfield 110, 3) := by decide +kernel
theorem dX11_termOf_54 : decode cX11_termOf 54 = .ok (.iload 4, 2) := by decide +kernel
theorem dX11_termOf_56 : decode cX11_termOf 56 = .ok (.iaload, 1) := by decide +kernel
theorem dX11_termOf_57 : decode cX11_termOf 57 = .ok (.iaload, 1) := by decide +kernel
theorem dX11_termOf_58 : decode cX11_termOf 58 = .ok (.iastore, 1) := by decide +kernel
theorem dX11_termOf_59 : decode cX11_termOf 59 = .ok (.iinc 3 1, 3) := by decide +kernel
theorem dX11_termOf_62 : decode cX11_termOf 62 = .ok (.goto 97, 3) := by decide +kernel
theorem dX11_termOf_65 : decode cX11_termOf 65 = .ok (.iinc 3 (-1), 3) := by decide +kernel
theorem dX11_termOf_68 : decode cX11_termOf 68 = .ok (.aload_n 0, 1) := by decide +kernel
theorem dX11_termOf_69 : decode cX11_termOf 69 = .ok (.getfield 119, 3) := by decide +kernel
theorem dX11_termOf_72 : decode cX11_termOf 72 = .ok (.iload_n 3, 1) := by decide +kernel
theorem dX11_termOf_73 : decode cX11_termOf 73 = .ok (.iconst 1, 1) := by decide +kernel
theorem dX11_termOf_74 : decode cX11_termOf 74 = .ok (.isub, 1) := by decide +kernel
theorem dX11_termOf_75 : decode cX11_termOf 75 = .ok (.iaload, 1) := by decide +kernel
theorem dX11_termOf_76 : decode cX11_termOf 76 = .ok (.istore 6, 2) := by decide +kernel
theorem dX11_termOf_78 : decode cX11_termOf 78 = .ok (.aload_n 0, 1) := by decide +kernel
theorem dX11_termOf_79 : decode cX11_termOf 79 = .ok (.getfield 119, 3) := by decide +kernel
theorem dX11_termOf_82 : decode cX11_termOf 82 = .ok (.iload_n 3, 1) := by decide +kernel
theorem dX11_termOf_83 : decode cX11_termOf 83 = .ok (.iaload, 1) := by decide +kernel
theorem dX11_termOf_84 : decode cX11_termOf 84 = .ok (.istore 7, 2) := by decide +kernel
theorem dX11_termOf_86 : decode cX11_termOf 86 = .ok (.iload 5, 2) := by decide +kernel
theorem dX11_termOf_88 : decode cX11_termOf 88 = .ok (.iconst 5, 1) := by decide +kernel
theorem dX11_termOf_89 : decode cX11_termOf 89 = .ok (.if_icmp .ne 15, 3) := by decide +kernel
theorem dX11_termOf_92 : decode cX11_termOf 92 = .ok (.iload 7, 2) := by decide +kernel
theorem dX11_termOf_94 : decode cX11_termOf 94 = .ok (.ifCond .ne 10, 3) := by decide +kernel
theorem dX11_termOf_97 : decode cX11_termOf 97 = .ok (.aload_n 0, 1) := by decide +kernel
theorem dX11_termOf_98 : decode cX11_termOf 98 = .ok (.iconst 1, 1) := by decide +kernel
theorem dX11_termOf_99 : decode cX11_termOf 99 = .ok (.putfield 338, 3) := by decide +kernel
theorem dX11_termOf_102 : decode cX11_termOf 102 = .ok (.iconst 0, 1) := by decide +kernel
theorem dX11_termOf_103 : decode cX11_termOf 103 = .ok (.ireturn, 1) := by decide +kernel
theorem dX11_termOf_104 : decode cX11_termOf 104 = .ok (.aload_n 0, 1) := by decide +kernel
theorem dX11_termOf_105 : decode cX11_termOf 105 = .ok (.getfield 119, 3) := by decide +kernel
theorem dX11_termOf_108 : decode cX11_termOf 108 = .ok (.iload_n 3, 1) := by decide +kernel
theorem dX11_termOf_109 : decode cX11_termOf 109 = .ok (.iconst 1, 1) := by decide +kernel
theorem dX11_termOf_110 : decode cX11_termOf 110 = .ok (.isub, 1) := by decide +kernel
theorem dX11_termOf_111 : decode cX11_termOf 111 = .ok (.iload 5, 2) := by decide +kernel
theorem dX11_termOf_113 : decode cX11_termOf 113 = .ok (.iconst 2, 1) := by decide +kernel
theorem dX11_termOf_114 : decode cX11_termOf 114 = .ok (.if_icmp .ne 11, 3) := by decide +kernel
theorem dX11_termOf_117 : decode cX11_termOf 117 = .ok (.iload 6, 2) := by decide +kernel
theorem dX11_termOf_119 : decode cX11_termOf 119 = .ok (.iload 7, 2) := by decide +kernel
theorem dX11_termOf_121 : decode cX11_termOf 121 = .ok (.iadd, 1) := by decide +kernel
theorem dX11_termOf_122 : decode cX11_termOf 122 = .ok (.goto 36, 3) := by decide +kernel
theorem dX11_termOf_125 : decode cX11_termOf 125 = .ok (.iload 5, 2) := by decide +kernel
theorem dX11_termOf_127 : decode cX11_termOf 127 = .ok (.iconst 3, 1) := by decide +kernel
theorem dX11_termOf_128 : decode cX11_termOf 128 = .ok (.if_icmp .ne 11, 3) := by decide +kernel
theorem dX11_termOf_131 : decode cX11_termOf 131 = .ok (.iload 6, 2) := by decide +kernel
theorem dX11_termOf_133 : decode cX11_termOf 133 = .ok (.iload 7, 2) := by decide +kernel
theorem dX11_termOf_135 : decode cX11_termOf 135 = .ok (.isub, 1) := by decide +kernel
theorem dX11_termOf_136 : decode cX11_termOf 136 = .ok (.goto 22, 3) := by decide +kernel
theorem dX11_termOf_139 : decode cX11_termOf 139 = .ok (.iload 5, 2) := by decide +kernel
theorem dX11_termOf_141 : decode cX11_termOf 141 = .ok (.iconst 4, 1) := by decide +kernel
theorem dX11_termOf_142 : decode cX11_termOf 142 = .ok (.if_icmp .ne 11, 3) := by decide +kernel
theorem dX11_termOf_145 : decode cX11_termOf 145 = .ok (.iload 6, 2) := by decide +kernel
theorem dX11_termOf_147 : decode cX11_termOf 147 = .ok (.iload 7, 2) := by decide +kernel
theorem dX11_termOf_149 : decode cX11_termOf 149 = .ok (.imul, 1) := by decide +kernel
theorem dX11_termOf_150 : decode cX11_termOf 150 = .ok (.goto 8, 3) := by decide +kernel
theorem dX11_termOf_153 : decode cX11_termOf 153 = .ok (.iload 6, 2) := by decide +kernel
theorem dX11_termOf_155 : decode cX11_termOf 155 = .ok (.iload 7, 2) := by decide +kernel
theorem dX11_termOf_157 : decode cX11_termOf 157 = .ok (.idiv, 1) := by decide +kernel
theorem dX11_termOf_158 : decode cX11_termOf 158 = .ok (.iastore, 1) := by decide +kernel
theorem dX11_termOf_159 : decode cX11_termOf 159 = .ok (.iinc 4 1, 3) := by decide +kernel
theorem dX11_termOf_162 : decode cX11_termOf 162 = .ok (.goto (-157), 3) := by decide +kernel
theorem dX11_termOf_165 : decode cX11_termOf 165 = .ok (.aload_n 0, 1) := by decide +kernel
theorem dX11_termOf_166 : decode cX11_termOf 166 = .ok (.getfield 119, 3) := by decide +kernel
theorem dX11_termOf_169 : decode cX11_termOf 169 = .ok (.iconst 0, 1) := by decide +kernel
theorem dX11_termOf_170 : decode cX11_termOf 170 = .ok (.iaload, 1) := by decide +kernel
theorem dX11_termOf_171 : decode cX11_termOf 171 = .ok (.ireturn, 1) := by decide +kernel
theorem dX11_in_0 : decode cX11_in 0 = .ok (.iload_n 0, 1) := by decide +kernel
theorem dX11_in_1 : decode cX11_in 1 = .ok (.iload_n 1, 1) := by decide +kernel
theorem dX11_in_2 : decode cX11_in 2 = .ok (.if_icmp .lt 12, 3) := by decide +kernel
theorem dX11_in_5 : decode cX11_in 5 = .ok (.iload_n 0, 1) := by decide +kernel
theorem dX11_in_6 : decode cX11_in 6 = .ok (.iload_n 2, 1) := by decide +kernel
theorem dX11_in_7 : decode cX11_in 7 = .ok (.if_icmp .gt 7, 3) := by decide +kernel
theorem dX11_in_10 : decode cX11_in 10 = .ok (.iconst 1, 1) := by decide +kernel
theorem dX11_in_11 : decode cX11_in 11 = .ok (.goto 4, 3) := by decide +kernel
theorem dX11_in_14 : decode cX11_in 14 = .ok (.iconst 0, 1) := by decide +kernel
theorem dX11_in_15 : decode cX11_in 15 = .ok (.ireturn, 1) := by decide +kernel
theorem dX11_begins_0 : decode cX11_begins 0 = .ok (.iconst 0, 1) := by decide +kernel
theorem dX11_begins_1 : decode cX11_begins 1 = .ok (.istore_n 1, 1) := by decide +kernel
theorem dX11_begins_2 : decode cX11_begins 2 = .ok (.iload_n 1, 1) := by decide +kernel
theorem dX11_begins_3 : decode cX11_begins 3 = .ok (.sipush 250, 3) := by decide +kernel
theorem dX11_begins_6 : decode cX11_begins 6 = .ok (.if_icmp .ge 26, 3) := by decide +kernel
theorem dX11_begins_9 : decode cX11_begins 9 = .ok (.aload_n 0, 1) := by decide +kernel
theorem dX11_begins_10 : decode cX11_begins 10 = .ok (.getfield 122, 3) := by decide +kernel
theorem dX11_begins_13 : decode cX11_begins 13 = .ok (.iload_n 1, 1) := by decide +kernel
theorem dX11_begins_14 : decode cX11_begins 14 = .ok (.iload_n 1, 1) := by decide +kernel
theorem dX11_begins_15 : decode cX11_begins 15 = .ok (.bipush 72, 2) := by decide +kernel
theorem dX11_begins_17 : decode cX11_begins 17 = .ok (.if_icmp .ge 7, 3) := by decide +kernel
theorem dX11_begins_20 : decode cX11_begins 20 = .ok (.iconst (-1), 1) := by decide +kernel
theorem dX11_begins_21 : decode cX11_begins 21 = .ok (.goto 4, 3) := by decide +kernel
theorem dX11_begins_24 : decode cX11_begins 24 = .ok (.iconst 0, 1) := by decide +kernel
theorem dX11_begins_25 : decode cX11_begins 25 = .ok (.iastore, 1) := by decide +kernel
theorem dX11_begins_26 : decode cX11_begins 26 = .ok (.iinc 1 1, 3) := by decide +kernel
theorem dX11_begins_29 : decode cX11_begins 29 = .ok (.goto (-27), 3) := by decide +kernel
theorem dX11_begins_32 : decode cX11_begins 32 = .ok (.return_, 1) := by decide +kernel
theorem dX11_copies_0 : decode cX11_copies 0 = .ok (.iconst 0, 1) := by decide +kernel
theorem dX11_copies_1 : decode cX11_copies 1 = .ok (.istore_n 1, 1) := by decide +kernel
theorem dX11_copies_2 : decode cX11_copies 2 = .ok (.iload_n 1, 1) := by decide +kernel
theorem dX11_copies_3 : decode cX11_copies 3 = .ok (.sipush 250, 3) := by decide +kernel
theorem dX11_copies_6 : decode cX11_copies 6 = .ok (.if_icmp .ge 21, 3) := by decide +kernel
theorem dX11_copies_9 : decode cX11_copies 9 = .ok (.aload_n 0, 1) := by decide +kernel
theorem dX11_copies_10 : decode cX11_copies 10 = .ok (.getfield 125, 3) := by decide +kernel
theorem dX11_copies_13 : decode cX11_copies 13 = .ok (.iload_n 1, 1) := by decide +kernel
theorem dX11_copies_14 : decode cX11_copies 14 = .ok (.aload_n 0, 1) := by decide +kernel
theorem dX11_copies_15 : decode cX11_copies 15 = .ok (.getfield 122, 3) := by decide +kernel
theorem dX11_copies_18 : decode cX11_copies 18 = .ok (.iload_n 1, 1) := by decide +kernel
theorem dX11_copies_19 : decode cX11_copies 19 = .ok (.iaload, 1) := by decide +kernel
theorem dX11_copies_20 : decode cX11_copies 20 = .ok (.iastore, 1) := by decide +kernel
theorem dX11_copies_21 : decode cX11_copies 21 = .ok (.iinc 1 1, 3) := by decide +kernel
theorem dX11_copies_24 : decode cX11_copies 24 = .ok (.goto (-22), 3) := by decide +kernel
theorem dX11_copies_27 : decode cX11_copies 27 = .ok (.aload_n 0, 1) := by decide +kernel
theorem dX11_copies_28 : decode cX11_copies 28 = .ok (.invokevirtual 342, 3) := by decide +kernel
theorem dX11_copies_31 : decode cX11_copies 31 = .ok (.return_, 1) := by decide +kernel
theorem dX11_counts_0 : decode cX11_counts 0 = .ok (.iconst 0, 1) := by decide +kernel
theorem dX11_counts_1 : decode cX11_counts 1 = .ok (.istore_n 1, 1) := by decide +kernel
theorem dX11_counts_2 : decode cX11_counts 2 = .ok (.iload_n 1, 1) := by decide +kernel
theorem dX11_counts_3 : decode cX11_counts 3 = .ok (.bipush 96, 2) := by decide +kernel
theorem dX11_counts_5 : decode cX11_counts 5 = .ok (.if_icmp .ge 16, 3) := by decide +kernel
theorem dX11_counts_8 : decode cX11_counts 8 = .ok (.aload_n 0, 1) := by decide +kernel
theorem dX11_counts_9 : decode cX11_counts 9 = .ok (.getfield 128, 3) := by decide +kernel
theorem dX11_counts_12 : decode cX11_counts 12 = .ok (.iload_n 1, 1) := by decide +kernel
theorem dX11_counts_13 : decode cX11_counts 13 = .ok (.iconst 0, 1) := by decide +kernel
theorem dX11_counts_14 : decode cX11_counts 14 = .ok (.iastore, 1) := by decide +kernel
theorem dX11_counts_15 : decode cX11_counts 15 = .ok (.iinc 1 1, 3) := by decide +kernel
theorem dX11_counts_18 : decode cX11_counts 18 = .ok (.goto (-16), 3) := by decide +kernel
theorem dX11_counts_21 : decode cX11_counts 21 = .ok (.iconst 0, 1) := by decide +kernel
theorem dX11_counts_22 : decode cX11_counts 22 = .ok (.istore_n 1, 1) := by decide +kernel
theorem dX11_counts_23 : decode cX11_counts 23 = .ok (.iload_n 1, 1) := by decide +kernel
theorem dX11_counts_24 : decode cX11_counts 24 = .ok (.bipush 72, 2) := by decide +kernel
theorem dX11_counts_26 : decode cX11_counts 26 = .ok (.if_icmp .ge 33, 3) := by decide +kernel
theorem dX11_counts_29 : decode cX11_counts 29 = .ok (.aload_n 0, 1) := by decide +kernel
theorem dX11_counts_30 : decode cX11_counts 30 = .ok (.getfield 125, 3) := by decide +kernel
theorem dX11_counts_33 : decode cX11_counts 33 = .ok (.iload_n 1, 1) := by decide +kernel
theorem dX11_counts_34 : decode cX11_counts 34 = .ok (.iaload, 1) := by decide +kernel
theorem dX11_counts_35 : decode cX11_counts 35 = .ok (.ifCond .lt 18, 3) := by decide +kernel
theorem dX11_counts_38 : decode cX11_counts 38 = .ok (.aload_n 0, 1) := by decide +kernel
theorem dX11_counts_39 : decode cX11_counts 39 = .ok (.getfield 128, 3) := by decide +kernel
theorem dX11_counts_42 : decode cX11_counts 42 = .ok (.aload_n 0, 1) := by decide +kernel
theorem dX11_counts_43 : decode cX11_counts 43 = .ok (.getfield 125, 3) := by decide +kernel
theorem dX11_counts_46 : decode cX11_counts 46 = .ok (.iload_n 1, 1) := by decide +kernel
theorem dX11_counts_47 : decode cX11_counts 47 = .ok (.iaload, 1) := by decide +kernel
theorem dX11_counts_48 : decode cX11_counts 48 = .ok (.dup2, 1) := by decide +kernel
theorem dX11_counts_49 : decode cX11_counts 49 = .ok (.iaload, 1) := by decide +kernel
theorem dX11_counts_50 : decode cX11_counts 50 = .ok (.iconst 1, 1) := by decide +kernel
theorem dX11_counts_51 : decode cX11_counts 51 = .ok (.iadd, 1) := by decide +kernel
theorem dX11_counts_52 : decode cX11_counts 52 = .ok (.iastore, 1) := by decide +kernel
theorem dX11_counts_53 : decode cX11_counts 53 = .ok (.iinc 1 1, 3) := by decide +kernel
theorem dX11_counts_56 : decode cX11_counts 56 = .ok (.goto (-33), 3) := by decide +kernel
theorem dX11_counts_59 : decode cX11_counts 59 = .ok (.return_, 1) := by decide +kernel
theorem dX11_isCell_0 : decode cX11_isCell 0 = .ok (.iload_n 1, 1) := by decide +kernel
theorem dX11_isCell_1 : decode cX11_isCell 1 = .ok (.iconst 0, 1) := by decide +kernel
theorem dX11_isCell_2 : decode cX11_isCell 2 = .ok (.aload_n 0, 1) := by decide +kernel
theorem dX11_isCell_3 : decode cX11_isCell 3 = .ok (.getfield 43, 3) := by decide +kernel
theorem dX11_isCell_6 : decode cX11_isCell 6 = .ok (.aload_n 0, 1) := by decide +kernel
theorem dX11_isCell_7 : decode cX11_isCell 7 = .ok (.getfield 269, 3) := by decide +kernel
theorem dX11_isCell_10 : decode cX11_isCell 10 = .ok (.iaload, 1) := by decide +kernel
theorem dX11_isCell_11 : decode cX11_isCell 11 = .ok (.iconst 1, 1) := by decide +kernel
theorem dX11_isCell_12 : decode cX11_isCell 12 = .ok (.isub, 1) := by decide +kernel
theorem dX11_isCell_13 : decode cX11_isCell 13 = .ok (.invokestatic 345, 3) := by decide +kernel
theorem dX11_isCell_16 : decode cX11_isCell 16 = .ok (.ifCond .eq 26, 3) := by decide +kernel
theorem dX11_isCell_19 : decode cX11_isCell 19 = .ok (.iload_n 2, 1) := by decide +kernel
theorem dX11_isCell_20 : decode cX11_isCell 20 = .ok (.iconst 0, 1) := by decide +kernel
theorem dX11_isCell_21 : decode cX11_isCell 21 = .ok (.aload_n 0, 1) := by decide +kernel
theorem dX11_isCell_22 : decode cX11_isCell 22 = .ok (.getfield 46, 3) := by decide +kernel
theorem dX11_isCell_25 : decode cX11_isCell 25 = .ok (.aload_n 0, 1) := by decide +kernel
theorem dX11_isCell_26 : decode cX11_isCell 26 = .ok (.getfield 269, 3) := by decide +kernel
theorem dX11_isCell_29 : decode cX11_isCell 29 = .ok (.iaload, 1) := by decide +kernel
theorem dX11_isCell_30 : decode cX11_isCell 30 = .ok (.iconst 1, 1) := by decide +kernel
theorem dX11_isCell_31 : decode cX11_isCell 31 = .ok (.isub, 1) := by decide +kernel
theorem dX11_isCell_32 : decode cX11_isCell 32 = .ok (.invokestatic 345, 3) := by decide +kernel
theorem dX11_isCell_35 : decode cX11_isCell 35 = .ok (.ifCond .eq 7, 3) := by decide +kernel
theorem dX11_isCell_38 : decode cX11_isCell 38 = .ok (.iconst 1, 1) := by decide +kernel
theorem dX11_isCell_39 : decode cX11_isCell 39 = .ok (.goto 4, 3) := by decide +kernel
theorem dX11_isCell_42 : decode cX11_isCell 42 = .ok (.iconst 0, 1) := by decide +kernel
theorem dX11_isCell_43 : decode cX11_isCell 43 = .ok (.ireturn, 1) := by decide +kernel
theorem dX11_isLeaver_0 : decode cX11_isLeaver 0 = .ok (.iload_n 1, 1) := by decide +kernel
theorem dX11_isLeaver_1 : decode cX11_isLeaver 1 = .ok (.iconst 0, 1) := by decide +kernel
theorem dX11_isLeaver_2 : decode cX11_isLeaver 2 = .ok (.aload_n 0, 1) := by decide +kernel
theorem dX11_isLeaver_3 : decode cX11_isLeaver 3 = .ok (.getfield 61, 3) := by decide +kernel
theorem dX11_isLeaver_6 : decode cX11_isLeaver 6 = .ok (.aload_n 0, 1) := by decide +kernel
theorem dX11_isLeaver_7 : decode cX11_isLeaver 7 = .ok (.getfield 269, 3) := by decide +kernel
theorem dX11_isLeaver_10 : decode cX11_isLeaver 10 = .ok (.iaload, 1) := by decide +kernel
theorem dX11_isLeaver_11 : decode cX11_isLeaver 11 = .ok (.iconst 1, 1) := by decide +kernel
theorem dX11_isLeaver_12 : decode cX11_isLeaver 12 = .ok (.isub, 1) := by decide +kernel
theorem dX11_isLeaver_13 : decode cX11_isLeaver 13 = .ok (.invokestatic 345, 3) := by decide +kernel
theorem dX11_isLeaver_16 : decode cX11_isLeaver 16 = .ok (.ireturn, 1) := by decide +kernel
theorem dX11_deep_0 : decode cX11_deep 0 = .ok (.aload_n 0, 1) := by decide +kernel
theorem dX11_deep_1 : decode cX11_deep 1 = .ok (.getfield 52, 3) := by decide +kernel
theorem dX11_deep_4 : decode cX11_deep 4 = .ok (.bipush 96, 2) := by decide +kernel
theorem dX11_deep_6 : decode cX11_deep 6 = .ok (.aload_n 0, 1) := by decide +kernel
theorem dX11_deep_7 : decode cX11_deep 7 = .ok (.getfield 269, 3) := by decide +kernel
theorem dX11_deep_10 : decode cX11_deep 10 = .ok (.imul, 1) := by decide +kernel
theorem dX11_deep_11 : decode cX11_deep 11 = .ok (.iload_n 1, 1) := by decide +kernel
theorem dX11_deep_12 : decode cX11_deep 12 = .ok (.iadd, 1) := by decide +kernel
theorem dX11_deep_13 : decode cX11_deep 13 = .ok (.iaload, 1) := by decide +kernel
theorem dX11_deep_14 : decode cX11_deep 14 = .ok (.ireturn, 1) := by decide +kernel
theorem dX11_isStep_0 : decode cX11_isStep 0 = .ok (.aload_n 0, 1) := by decide +kernel
theorem dX11_isStep_1 : decode cX11_isStep 1 = .ok (.getfield 128, 3) := by decide +kernel
theorem dX11_isStep_4 : decode cX11_isStep 4 = .ok (.iload_n 1, 1) := by decide +kernel
theorem dX11_isStep_5 : decode cX11_isStep 5 = .ok (.iaload, 1) := by decide +kernel
theorem dX11_isStep_6 : decode cX11_isStep 6 = .ok (.aload_n 0, 1) := by decide +kernel
theorem dX11_isStep_7 : decode cX11_isStep 7 = .ok (.iload_n 1, 1) := by decide +kernel
theorem dX11_isStep_8 : decode cX11_isStep 8 = .ok (.invokevirtual 349, 3) := by decide +kernel
theorem dX11_isStep_11 : decode cX11_isStep 11 = .ok (.if_icmp .lt 7, 3) := by decide +kernel
theorem dX11_isStep_14 : decode cX11_isStep 14 = .ok (.iconst 1, 1) := by decide +kernel
theorem dX11_isStep_15 : decode cX11_isStep 15 = .ok (.goto 4, 3) := by decide +kernel
theorem dX11_isStep_18 : decode cX11_isStep 18 = .ok (.iconst 0, 1) := by decide +kernel
theorem dX11_isStep_19 : decode cX11_isStep 19 = .ok (.ireturn, 1) := by decide +kernel
theorem dX11_tellsBy_0 : decode cX11_tellsBy 0 = .ok (.aload_n 0, 1) := by decide +kernel
theorem dX11_tellsBy_1 : decode cX11_tellsBy 1 = .ok (.getfield 85, 3) := by decide +kernel
theorem dX11_tellsBy_4 : decode cX11_tellsBy 4 = .ok (.iconst 2, 1) := by decide +kernel
theorem dX11_tellsBy_5 : decode cX11_tellsBy 5 = .ok (.aload_n 0, 1) := by decide +kernel
theorem dX11_tellsBy_6 : decode cX11_tellsBy 6 = .ok (.getfield 269, 3) := by decide +kernel
theorem dX11_tellsBy_9 : decode cX11_tellsBy 9 = .ok (.imul, 1) := by decide +kernel
theorem dX11_tellsBy_10 : decode cX11_tellsBy 10 = .ok (.iload_n 1, 1) := by decide +kernel
theorem dX11_tellsBy_11 : decode cX11_tellsBy 11 = .ok (.iadd, 1) := by decide +kernel
theorem dX11_tellsBy_12 : decode cX11_tellsBy 12 = .ok (.iaload, 1) := by decide +kernel
theorem dX11_tellsBy_13 : decode cX11_tellsBy 13 = .ok (.istore 5, 2) := by decide +kernel
theorem dX11_tellsBy_15 : decode cX11_tellsBy 15 = .ok (.aload_n 0, 1) := by decide +kernel
theorem dX11_tellsBy_16 : decode cX11_tellsBy 16 = .ok (.getfield 88, 3) := by decide +kernel
theorem dX11_tellsBy_19 : decode cX11_tellsBy 19 = .ok (.iconst 2, 1) := by decide +kernel
theorem dX11_tellsBy_20 : decode cX11_tellsBy 20 = .ok (.aload_n 0, 1) := by decide +kernel
theorem dX11_tellsBy_21 : decode cX11_tellsBy 21 = .ok (.getfield 269, 3) := by decide +kernel
theorem dX11_tellsBy_24 : decode cX11_tellsBy 24 = .ok (.imul, 1) := by decide +kernel
theorem dX11_tellsBy_25 : decode cX11_tellsBy 25 = .ok (.iload_n 1, 1) := by decide +kernel
theorem dX11_tellsBy_26 : decode cX11_tellsBy 26 = .ok (.iadd, 1) := by decide +kernel
theorem dX11_tellsBy_27 : decode cX11_tellsBy 27 = .ok (.iaload, 1) := by decide +kernel
theorem dX11_tellsBy_28 : decode cX11_tellsBy 28 = .ok (.istore 6, 2) := by decide +kernel
theorem dX11_tellsBy_30 : decode cX11_tellsBy 30 = .ok (.aload_n 0, 1) := by decide +kernel
theorem dX11_tellsBy_31 : decode cX11_tellsBy 31 = .ok (.getfield 116, 3) := by decide +kernel
theorem dX11_tellsBy_34 : decode cX11_tellsBy 34 = .ok (.iconst 0, 1) := by decide +kernel
theorem dX11_tellsBy_35 : decode cX11_tellsBy 35 = .ok (.aload_n 0, 1) := by decide +kernel
theorem dX11_tellsBy_36 : decode cX11_tellsBy 36 = .ok (.getfield 128, 3) := by decide +kernel
theorem dX11_tellsBy_39 : decode cX11_tellsBy 39 = .ok (.iload_n 2, 1) := by decide +kernel
theorem dX11_tellsBy_40 : decode cX11_tellsBy 40 = .ok (.iaload, 1) := by decide +kernel
theorem dX11_tellsBy_41 : decode cX11_tellsBy 41 = .ok (.iastore, 1) := by decide +kernel
theorem dX11_tellsBy_42 : decode cX11_tellsBy 42 = .ok (.aload_n 0, 1) := by decide +kernel
theorem dX11_tellsBy_43 : decode cX11_tellsBy 43 = .ok (.getfield 116, 3) := by decide +kernel
theorem dX11_tellsBy_46 : decode cX11_tellsBy 46 = .ok (.iconst 1, 1) := by decide +kernel
theorem dX11_tellsBy_47 : decode cX11_tellsBy 47 = .ok (.aload_n 0, 1) := by decide +kernel
theorem dX11_tellsBy_48 : decode cX11_tellsBy 48 = .ok (.iload_n 2, 1) := by decide +kernel
theorem dX11_tellsBy_49 : decode cX11_tellsBy 49 = .ok (.invokevirtual 349, 3) := by decide +kernel
theorem dX11_tellsBy_52 : decode cX11_tellsBy 52 = .ok (.iastore, 1) := by decide +kernel
theorem dX11_tellsBy_53 : decode cX11_tellsBy 53 = .ok (.aload_n 0, 1) := by decide +kernel
theorem dX11_tellsBy_54 : decode cX11_tellsBy 54 = .ok (.getfield 116, 3) := by decide +kernel
theorem dX11_tellsBy_57 : decode cX11_tellsBy 57 = .ok (.iconst 2, 1) := by decide +kernel
theorem dX11_tellsBy_58 : decode cX11_tellsBy 58 = .ok (.iload_n 3, 1) := by decide +kernel
theorem dX11_tellsBy_59 : decode cX11_tellsBy 59 = .ok (.iastore, 1) := by decide +kernel
theorem dX11_tellsBy_60 : decode cX11_tellsBy 60 = .ok (.aload_n 0, 1) := by decide +kernel
theorem dX11_tellsBy_61 : decode cX11_tellsBy 61 = .ok (.getfield 116, 3) := by decide +kernel
theorem dX11_tellsBy_64 : decode cX11_tellsBy 64 = .ok (.iconst 3, 1) := by decide +kernel
theorem dX11_tellsBy_65 : decode cX11_tellsBy 65 = .ok (.aload_n 0, 1) := by decide +kernel
theorem dX11_tellsBy_66 : decode cX11_tellsBy 66 = .ok (.getfield 125, 3) := by decide +kernel
theorem dX11_tellsBy_69 : decode cX11_tellsBy 69 = .ok (.sipush 144, 3) := by decide +kernel
theorem dX11_tellsBy_72 : decode cX11_tellsBy 72 = .ok (.iload_n 2, 1) := by decide +kernel
theorem dX11_tellsBy_73 : decode cX11_tellsBy 73 = .ok (.iadd, 1) := by decide +kernel
theorem dX11_tellsBy_74 : decode cX11_tellsBy 74 = .ok (.iaload, 1) := by decide +kernel
theorem dX11_tellsBy_75 : decode cX11_tellsBy 75 = .ok (.iastore, 1) := by decide +kernel
theorem dX11_tellsBy_76 : decode cX11_tellsBy 76 = .ok (.aload_n 0, 1) := by decide +kernel
theorem dX11_tellsBy_77 : decode cX11_tellsBy 77 = .ok (.getfield 116, 3) := by decide +kernel
theorem dX11_tellsBy_80 : decode cX11_tellsBy 80 = .ok (.iconst 4, 1) := by decide +kernel
theorem dX11_tellsBy_81 : decode cX11_tellsBy 81 = .ok (.iload_n 2, 1) := by decide +kernel
theorem dX11_tellsBy_82 : decode cX11_tellsBy 82 = .ok (.bipush 12, 2) := by decide +kernel
theorem dX11_tellsBy_84 : decode cX11_tellsBy 84 = .ok (.idiv, 1) := by decide +kernel
theorem dX11_tellsBy_85 : decode cX11_tellsBy 85 = .ok (.iastore, 1) := by decide +kernel
theorem dX11_tellsBy_86 : decode cX11_tellsBy 86 = .ok (.aload_n 0, 1) := by decide +kernel
theorem dX11_tellsBy_87 : decode cX11_tellsBy 87 = .ok (.getfield 116, 3) := by decide +kernel
theorem dX11_tellsBy_90 : decode cX11_tellsBy 90 = .ok (.iconst 5, 1) := by decide +kernel
theorem dX11_tellsBy_91 : decode cX11_tellsBy 91 = .ok (.iload_n 2, 1) := by decide +kernel
theorem dX11_tellsBy_92 : decode cX11_tellsBy 92 = .ok (.bipush 12, 2) := by decide +kernel
theorem dX11_tellsBy_94 : decode cX11_tellsBy 94 = .ok (.irem, 1) := by decide +kernel
theorem dX11_tellsBy_95 : decode cX11_tellsBy 95 = .ok (.iastore, 1) := by decide +kernel
theorem dX11_tellsBy_96 : decode cX11_tellsBy 96 = .ok (.aload_n 0, 1) := by decide +kernel
theorem dX11_tellsBy_97 : decode cX11_tellsBy 97 = .ok (.iconst 0, 1) := by decide +kernel
theorem dX11_tellsBy_98 : decode cX11_tellsBy 98 = .ok (.putfield 338, 3) := by decide +kernel
theorem dX11_tellsBy_101 : decode cX11_tellsBy 101 = .ok (.iload 5, 2) := by decide +kernel
theorem dX11_tellsBy_103 : decode cX11_tellsBy 103 = .ok (.istore 7, 2) := by decide +kernel
theorem dX11_tellsBy_105 : decode cX11_tellsBy 105 = .ok (.iload 7, 2) := by decide +kernel
theorem dX11_tellsBy_107 : decode cX11_tellsBy 107 = .ok (.iload 6, 2) := by decide +kernel
theorem dX11_tellsBy_109 : decode cX11_tellsBy 109 = .ok (.if_icmp .ge 129, 3) := by decide +kernel
theorem dX11_tellsBy_112 : decode cX11_tellsBy 112 = .ok (.aload_n 0, 1) := by decide +kernel
theorem dX11_tellsBy_113 : decode cX11_tellsBy 113 = .ok (.getfield 91, 3) := by decide +kernel
theorem dX11_tellsBy_116 : decode cX11_tellsBy 116 = .ok (.iload 7, 2) := by decide +kernel
theorem dX11_tellsBy_118 : decode cX11_tellsBy 118 = .ok (.baload, 1) := by decide +kernel
theorem dX11_tellsBy_119 : decode cX11_tellsBy 119 = .ok (.ifCond .eq 62, 3) := by decide +kernel
theorem dX11_tellsBy_122 : decode cX11_tellsBy 122 = .ok (.aload_n 0, 1) := by decide +kernel
theorem dX11_tellsBy_123 : decode cX11_tellsBy 123 = .ok (.aload_n 0, 1) := by decide +kernel
theorem dX11_tellsBy_124 : decode cX11_tellsBy 124 = .ok (.getfield 95, 3) := by decide +kernel
theorem dX11_tellsBy_127 : decode cX11_tellsBy 127 = .ok (.iload 7, 2) := by decide +kernel
theorem dX11_tellsBy_129 : decode cX11_tellsBy 129 = .ok (.iaload, 1) := by decide +kernel
theorem dX11_tellsBy_130 : decode cX11_tellsBy 130 = .ok (.aload_n 0, 1) := by decide +kernel
theorem dX11_tellsBy_131 : decode cX11_tellsBy 131 = .ok (.getfield 98, 3) := by decide +kernel
theorem dX11_tellsBy_134 : decode cX11_tellsBy 134 = .ok (.iload 7, 2) := by decide +kernel
theorem dX11_tellsBy_136 : decode cX11_tellsBy 136 = .ok (.iaload, 1) := by decide +kernel
theorem dX11_tellsBy_137 : decode cX11_tellsBy 137 = .ok (.invokevirtual 352, 3) := by decide +kernel
theorem dX11_tellsBy_140 : decode cX11_tellsBy 140 = .ok (.istore 8, 2) := by decide +kernel
theorem dX11_tellsBy_142 : decode cX11_tellsBy 142 = .ok (.aload_n 0, 1) := by decide +kernel
theorem dX11_tellsBy_143 : decode cX11_tellsBy 143 = .ok (.aload_n 0, 1) := by decide +kernel
theorem dX11_tellsBy_144 : decode cX11_tellsBy 144 = .ok (.getfield 98, 3) := by decide +kernel
theorem dX11_tellsBy_147 : decode cX11_tellsBy 147 = .ok (.iload 7, 2) := by decide +kernel
theorem dX11_tellsBy_149 : decode cX11_tellsBy 149 = .ok (.iaload, 1) := by decide +kernel
theorem dX11_tellsBy_150 : decode cX11_tellsBy 150 = .ok (.aload_n 0, 1) := by decide +kernel
theorem dX11_tellsBy_151 : decode cX11_tellsBy 151 = .ok (.getfield 101, 3) := by decide +kernel
theorem dX11_tellsBy_154 : decode cX11_tellsBy 154 = .ok (.iload 7, 2) := by decide +kernel
theorem dX11_tellsBy_156 : decode cX11_tellsBy 156 = .ok (.iaload, 1) := by decide +kernel
theorem dX11_tellsBy_157 : decode cX11_tellsBy 157 = .ok (.invokevirtual 352, 3) := by decide +kernel
theorem dX11_tellsBy_160 : decode cX11_tellsBy 160 = .ok (.istore 9, 2) := by decide +kernel
theorem dX11_tellsBy_162 : decode cX11_tellsBy 162 = .ok (.aload_n 0, 1) := by decide +kernel
theorem dX11_tellsBy_163 : decode cX11_tellsBy 163 = .ok (.getfield 338, 3) := by decide +kernel
theorem dX11_tellsBy_166 : decode cX11_tellsBy 166 = .ok (.ifCond .eq 5, 3) := by decide +kernel
theorem dX11_tellsBy_169 : decode cX11_tellsBy 169 = .ok (.iconst 0, 1) := by decide +kernel
theorem dX11_tellsBy_170 : decode cX11_tellsBy 170 = .ok (.ireturn, 1) := by decide +kernel
theorem dX11_tellsBy_171 : decode cX11_tellsBy 171 = .ok (.iload 8, 2) := by decide +kernel
theorem dX11_tellsBy_173 : decode cX11_tellsBy 173 = .ok (.iload 9, 2) := by decide +kernel
theorem dX11_tellsBy_175 : decode cX11_tellsBy 175 = .ok (.if_icmp .lt 6, 3) := by decide +kernel
theorem dX11_tellsBy_178 : decode cX11_tellsBy 178 = .ok (.goto 54, 3) := by decide +kernel
theorem dX11_tellsBy_181 : decode cX11_tellsBy 181 = .ok (.aload_n 0, 1) := by decide +kernel
theorem dX11_tellsBy_182 : decode cX11_tellsBy 182 = .ok (.aload_n 0, 1) := by decide +kernel
theorem dX11_tellsBy_183 : decode cX11_tellsBy 183 = .ok (.getfield 101, 3) := by decide +kernel
theorem dX11_tellsBy_186 : decode cX11_tellsBy 186 = .ok (.iload 7, 2) := by decide +kernel
theorem dX11_tellsBy_188 : decode cX11_tellsBy 188 = .ok (.iaload, 1) := by decide +kernel
theorem dX11_tellsBy_189 : decode cX11_tellsBy 189 = .ok (.aload_n 0, 1) := by decide +kernel
theorem dX11_tellsBy_190 : decode cX11_tellsBy 190 = .ok (.getfield 104, 3) := by decide +kernel
theorem dX11_tellsBy_193 : decode cX11_tellsBy 193 = .ok (.iload 7, 2) := by decide +kernel
theorem dX11_tellsBy_195 : decode cX11_tellsBy 195 = .ok (.iaload, 1) := by decide +kernel
theorem dX11_tellsBy_196 : decode cX11_tellsBy 196 = .ok (.invokevirtual 352, 3) := by decide +kernel
theorem dX11_tellsBy_199 : decode cX11_tellsBy 199 = .ok (.istore 8, 2) := by decide +kernel
theorem dX11_tellsBy_201 : decode cX11_tellsBy 201 = .ok (.aload_n 0, 1) := by decide +kernel
theorem dX11_tellsBy_202 : decode cX11_tellsBy 202 = .ok (.getfield 338, 3) := by decide +kernel
theorem dX11_tellsBy_205 : decode cX11_tellsBy 205 = .ok (.ifCond .ne 8, 3) := by decide +kernel
theorem dX11_tellsBy_208 : decode cX11_tellsBy 208 = .ok (.iload 8, 2) := by decide +kernel
theorem dX11_tellsBy_210 : decode cX11_tellsBy 210 = .ok (.ifCond .ge 7, 3) := by decide +kernel
theorem dX11_tellsBy_213 : decode cX11_tellsBy 213 = .ok (.iconst 0, 1) := by decide +kernel
theorem dX11_tellsBy_214 : decode cX11_tellsBy 214 = .ok (.goto 17, 3) := by decide +kernel
theorem dX11_tellsBy_217 : decode cX11_tellsBy 217 = .ok (.iload 8, 2) := by decide +kernel
theorem dX11_tellsBy_219 : decode cX11_tellsBy 219 = .ok (.iload 4, 2) := by decide +kernel
theorem dX11_tellsBy_221 : decode cX11_tellsBy 221 = .ok (.if_icmp .le 8, 3) := by decide +kernel
theorem dX11_tellsBy_224 : decode cX11_tellsBy 224 = .ok (.iload 4, 2) := by decide +kernel
theorem dX11_tellsBy_226 : decode cX11_tellsBy 226 = .ok (.goto 5, 3) := by decide +kernel
theorem dX11_tellsBy_229 : decode cX11_tellsBy 229 = .ok (.iload 8, 2) := by decide +kernel
theorem dX11_tellsBy_231 : decode cX11_tellsBy 231 = .ok (.ireturn, 1) := by decide +kernel
theorem dX11_tellsBy_232 : decode cX11_tellsBy 232 = .ok (.iinc 7 1, 3) := by decide +kernel
theorem dX11_tellsBy_235 : decode cX11_tellsBy 235 = .ok (.goto (-130), 3) := by decide +kernel
theorem dX11_tellsBy_238 : decode cX11_tellsBy 238 = .ok (.iconst 0, 1) := by decide +kernel
theorem dX11_tellsBy_239 : decode cX11_tellsBy 239 = .ok (.ireturn, 1) := by decide +kernel
theorem dX11_leftOf_0 : decode cX11_leftOf 0 = .ok (.iconst 0, 1) := by decide +kernel
theorem dX11_leftOf_1 : decode cX11_leftOf 1 = .ok (.istore_n 2, 1) := by decide +kernel
theorem dX11_leftOf_2 : decode cX11_leftOf 2 = .ok (.iconst 0, 1) := by decide +kernel
theorem dX11_leftOf_3 : decode cX11_leftOf 3 = .ok (.istore_n 3, 1) := by decide +kernel
theorem dX11_leftOf_4 : decode cX11_leftOf 4 = .ok (.iload_n 3, 1) := by decide +kernel
theorem dX11_leftOf_5 : decode cX11_leftOf 5 = .ok (.aload_n 0, 1) := by decide +kernel
theorem dX11_leftOf_6 : decode cX11_leftOf 6 = .ok (.getfield 70, 3) := by decide +kernel
theorem dX11_leftOf_9 : decode cX11_leftOf 9 = .ok (.bipush 8, 2) := by decide +kernel
theorem dX11_leftOf_11 : decode cX11_leftOf 11 = .ok (.aload_n 0, 1) := by decide +kernel
theorem dX11_leftOf_12 : decode cX11_leftOf 12 = .ok (.getfield 269, 3) := by decide +kernel
theorem dX11_leftOf_15 : decode cX11_leftOf 15 = .ok (.imul, 1) := by decide +kernel
theorem dX11_leftOf_16 : decode cX11_leftOf 16 = .ok (.iload_n 1, 1) := by decide +kernel
theorem dX11_leftOf_17 : decode cX11_leftOf 17 = .ok (.iadd, 1) := by decide +kernel
theorem dX11_leftOf_18 : decode cX11_leftOf 18 = .ok (.iaload, 1) := by decide +kernel
theorem dX11_leftOf_19 : decode cX11_leftOf 19 = .ok (.if_icmp .ge 27, 3) := by decide +kernel
theorem dX11_leftOf_22 : decode cX11_leftOf 22 = .ok (.aload_n 0, 1) := by decide +kernel
theorem dX11_leftOf_23 : decode cX11_leftOf 23 = .ok (.getfield 125, 3) := by decide +kernel
theorem dX11_leftOf_26 : decode cX11_leftOf 26 = .ok (.bipush 9, 2) := by decide +kernel
theorem dX11_leftOf_28 : decode cX11_leftOf 28 = .ok (.iload_n 1, 1) := by decide +kernel
theorem dX11_leftOf_29 : decode cX11_leftOf 29 = .ok (.imul, 1) := by decide +kernel
theorem dX11_leftOf_30 : decode cX11_leftOf 30 = .ok (.iload_n 3, 1) := by decide +kernel
theorem dX11_leftOf_31 : decode cX11_leftOf 31 = .ok (.iadd, 1) := by decide +kernel
theorem dX11_leftOf_32 : decode cX11_leftOf 32 = .ok (.iaload, 1) := by decide +kernel
theorem dX11_leftOf_33 : decode cX11_leftOf 33 = .ok (.iconst (-1), 1) := by decide +kernel
theorem dX11_leftOf_34 : decode cX11_leftOf 34 = .ok (.if_icmp .ne 6, 3) := by decide +kernel
theorem dX11_leftOf_37 : decode cX11_leftOf 37 = .ok (.iinc 2 1, 3) := by decide +kernel
theorem dX11_leftOf_40 : decode cX11_leftOf 40 = .ok (.iinc 3 1, 3) := by decide +kernel
theorem dX11_leftOf_43 : decode cX11_leftOf 43 = .ok (.goto (-39), 3) := by decide +kernel
theorem dX11_leftOf_46 : decode cX11_leftOf 46 = .ok (.iload_n 2, 1) := by decide +kernel
theorem dX11_leftOf_47 : decode cX11_leftOf 47 = .ok (.ireturn, 1) := by decide +kernel
theorem dX11_mayThrow_0 : decode cX11_mayThrow 0 = .ok (.aload_n 0, 1) := by decide +kernel
theorem dX11_mayThrow_1 : decode cX11_mayThrow 1 = .ok (.iload_n 1, 1) := by decide +kernel
theorem dX11_mayThrow_2 : decode cX11_mayThrow 2 = .ok (.invokevirtual 355, 3) := by decide +kernel
theorem dX11_mayThrow_5 : decode cX11_mayThrow 5 = .ok (.ifCond .le 32, 3) := by decide +kernel
theorem dX11_mayThrow_8 : decode cX11_mayThrow 8 = .ok (.aload_n 0, 1) := by decide +kernel
theorem dX11_mayThrow_9 : decode cX11_mayThrow 9 = .ok (.getfield 125, 3) := by decide +kernel
theorem dX11_mayThrow_12 : decode cX11_mayThrow 12 = .ok (.sipush 240, 3) := by decide +kernel
theorem dX11_mayThrow_15 : decode cX11_mayThrow 15 = .ok (.iaload, 1) := by decide +kernel
theorem dX11_mayThrow_16 : decode cX11_mayThrow 16 = .ok (.aload_n 0, 1) := by decide +kernel
theorem dX11_mayThrow_17 : decode cX11_mayThrow 17 = .ok (.getfield 64, 3) := by decide +kernel
theorem dX11_mayThrow_20 : decode cX11_mayThrow 20 = .ok (.bipush 8, 2) := by decide +kernel
theorem dX11_mayThrow_22 : decode cX11_mayThrow 22 = .ok (.aload_n 0, 1) := by decide +kernel
theorem dX11_mayThrow_23 : decode cX11_mayThrow 23 = .ok (.getfield 269, 3) := by decide +kernel
theorem dX11_mayThrow_26 : decode cX11_mayThrow 26 = .ok (.imul, 1) := by decide +kernel
theorem dX11_mayThrow_27 : decode cX11_mayThrow 27 = .ok (.iload_n 1, 1) := by decide +kernel
theorem dX11_mayThrow_28 : decode cX11_mayThrow 28 = .ok (.iadd, 1) := by decide +kernel
theorem dX11_mayThrow_29 : decode cX11_mayThrow 29 = .ok (.iaload, 1) := by decide +kernel
theorem dX11_mayThrow_30 : decode cX11_mayThrow 30 = .ok (.if_icmp .lt 7, 3) := by decide +kernel
theorem dX11_mayThrow_33 : decode cX11_mayThrow 33 = .ok (.iconst 1, 1) := by decide +kernel
theorem dX11_mayThrow_34 : decode cX11_mayThrow 34 = .ok (.goto 4, 3) := by decide +kernel
theorem dX11_mayThrow_37 : decode cX11_mayThrow 37 = .ok (.iconst 0, 1) := by decide +kernel
theorem dX11_mayThrow_38 : decode cX11_mayThrow 38 = .ok (.ireturn, 1) := by decide +kernel
theorem dX11_driftOf_0 : decode cX11_driftOf 0 = .ok (.aload_n 0, 1) := by decide +kernel
theorem dX11_driftOf_1 : decode cX11_driftOf 1 = .ok (.getfield 55, 3) := by decide +kernel
theorem dX11_driftOf_4 : decode cX11_driftOf 4 = .ok (.bipush 8, 2) := by decide +kernel
theorem dX11_driftOf_6 : decode cX11_driftOf 6 = .ok (.aload_n 0, 1) := by decide +kernel
theorem dX11_driftOf_7 : decode cX11_driftOf 7 = .ok (.getfield 269, 3) := by decide +kernel
theorem dX11_driftOf_10 : decode cX11_driftOf 10 = .ok (.imul, 1) := by decide +kernel
theorem dX11_driftOf_11 : decode cX11_driftOf 11 = .ok (.iload_n 2, 1) := by decide +kernel
theorem dX11_driftOf_12 : decode cX11_driftOf 12 = .ok (.iadd, 1) := by decide +kernel
theorem dX11_driftOf_13 : decode cX11_driftOf 13 = .ok (.iaload, 1) := by decide +kernel
theorem dX11_driftOf_14 : decode cX11_driftOf 14 = .ok (.aload_n 0, 1) := by decide +kernel
theorem dX11_driftOf_15 : decode cX11_driftOf 15 = .ok (.getfield 67, 3) := by decide +kernel
theorem dX11_driftOf_18 : decode cX11_driftOf 18 = .ok (.bipush 8, 2) := by decide +kernel
theorem dX11_driftOf_20 : decode cX11_driftOf 20 = .ok (.aload_n 0, 1) := by decide +kernel
theorem dX11_driftOf_21 : decode cX11_driftOf 21 = .ok (.getfield 269, 3) := by decide +kernel
theorem dX11_driftOf_24 : decode cX11_driftOf 24 = .ok (.imul, 1) := by decide +kernel
theorem dX11_driftOf_25 : decode cX11_driftOf 25 = .ok (.iload_n 1, 1) := by decide +kernel
theorem dX11_driftOf_26 : decode cX11_driftOf 26 = .ok (.iadd, 1) := by decide +kernel
theorem dX11_driftOf_27 : decode cX11_driftOf 27 = .ok (.iaload, 1) := by decide +kernel
theorem dX11_driftOf_28 : decode cX11_driftOf 28 = .ok (.idiv, 1) := by decide +kernel
theorem dX11_driftOf_29 : decode cX11_driftOf 29 = .ok (.ireturn, 1) := by decide +kernel
theorem dX11_throwsAt_0 : decode cX11_throwsAt 0 = .ok (.bipush 9, 2) := by decide +kernel
theorem dX11_throwsAt_2 : decode cX11_throwsAt 2 = .ok (.iload_n 1, 1) := by decide +kernel
theorem dX11_throwsAt_3 : decode cX11_throwsAt 3 = .ok (.imul, 1) := by decide +kernel
theorem dX11_throwsAt_4 : decode cX11_throwsAt 4 = .ok (.istore 4, 2) := by decide +kernel
theorem dX11_throwsAt_6 : decode cX11_throwsAt 6 = .ok (.aload_n 0, 1) := by decide +kernel
theorem dX11_throwsAt_7 : decode cX11_throwsAt 7 = .ok (.getfield 125, 3) := by decide +kernel
theorem dX11_throwsAt_10 : decode cX11_throwsAt 10 = .ok (.iload 4, 2) := by decide +kernel
theorem dX11_throwsAt_12 : decode cX11_throwsAt 12 = .ok (.iaload, 1) := by decide +kernel
theorem dX11_throwsAt_13 : decode cX11_throwsAt 13 = .ok (.iconst (-1), 1) := by decide +kernel
theorem dX11_throwsAt_14 : decode cX11_throwsAt 14 = .ok (.if_icmp .eq 9, 3) := by decide +kernel
theorem dX11_throwsAt_17 : decode cX11_throwsAt 17 = .ok (.iinc 4 1, 3) := by decide +kernel
theorem dX11_throwsAt_20 : decode cX11_throwsAt 20 = .ok (.goto (-14), 3) := by decide +kernel
theorem dX11_throwsAt_23 : decode cX11_throwsAt 23 = .ok (.iload_n 2, 1) := by decide +kernel
theorem dX11_throwsAt_24 : decode cX11_throwsAt 24 = .ok (.aload_n 0, 1) := by decide +kernel
theorem dX11_throwsAt_25 : decode cX11_throwsAt 25 = .ok (.iload_n 1, 1) := by decide +kernel
theorem dX11_throwsAt_26 : decode cX11_throwsAt 26 = .ok (.iload_n 3, 1) := by decide +kernel
theorem dX11_throwsAt_27 : decode cX11_throwsAt 27 = .ok (.invokevirtual 358, 3) := by decide +kernel
theorem dX11_throwsAt_30 : decode cX11_throwsAt 30 = .ok (.iadd, 1) := by decide +kernel
theorem dX11_throwsAt_31 : decode cX11_throwsAt 31 = .ok (.istore 5, 2) := by decide +kernel
theorem dX11_throwsAt_33 : decode cX11_throwsAt 33 = .ok (.iload 5, 2) := by decide +kernel
theorem dX11_throwsAt_35 : decode cX11_throwsAt 35 = .ok (.aload_n 0, 1) := by decide +kernel
theorem dX11_throwsAt_36 : decode cX11_throwsAt 36 = .ok (.getfield 43, 3) := by decide +kernel
theorem dX11_throwsAt_39 : decode cX11_throwsAt 39 = .ok (.aload_n 0, 1) := by decide +kernel
theorem dX11_throwsAt_40 : decode cX11_throwsAt 40 = .ok (.getfield 269, 3) := by decide +kernel
theorem dX11_throwsAt_43 : decode cX11_throwsAt 43 = .ok (.iaload, 1) := by decide +kernel
theorem dX11_throwsAt_44 : decode cX11_throwsAt 44 = .ok (.if_icmp .lt 15, 3) := by decide +kernel
theorem dX11_throwsAt_47 : decode cX11_throwsAt 47 = .ok (.aload_n 0, 1) := by decide +kernel
theorem dX11_throwsAt_48 : decode cX11_throwsAt 48 = .ok (.getfield 125, 3) := by decide +kernel
theorem dX11_throwsAt_51 : decode cX11_throwsAt 51 = .ok (.iload 4, 2) := by decide +kernel
theorem dX11_throwsAt_53 : decode cX11_throwsAt 53 = .ok (.bipush (-2), 2) := by decide +kernel
theorem dX11_throwsAt_55 : decode cX11_throwsAt 55 = .ok (.iastore, 1) := by decide +kernel
theorem dX11_throwsAt_56 : decode cX11_throwsAt 56 = .ok (.bipush (-2), 2) := by decide +kernel
theorem dX11_throwsAt_58 : decode cX11_throwsAt 58 = .ok (.ireturn, 1) := by decide +kernel
theorem dX11_throwsAt_59 : decode cX11_throwsAt 59 = .ok (.bipush 12, 2) := by decide +kernel
theorem dX11_throwsAt_61 : decode cX11_throwsAt 61 = .ok (.iload_n 3, 1) := by decide +kernel
theorem dX11_throwsAt_62 : decode cX11_throwsAt 62 = .ok (.imul, 1) := by decide +kernel
theorem dX11_throwsAt_63 : decode cX11_throwsAt 63 = .ok (.iload 5, 2) := by decide +kernel
theorem dX11_throwsAt_65 : decode cX11_throwsAt 65 = .ok (.iadd, 1) := by decide +kernel
theorem dX11_throwsAt_66 : decode cX11_throwsAt 66 = .ok (.istore 6, 2) := by decide +kernel
theorem dX11_throwsAt_68 : decode cX11_throwsAt 68 = .ok (.aload_n 0, 1) := by decide +kernel
theorem dX11_throwsAt_69 : decode cX11_throwsAt 69 = .ok (.getfield 125, 3) := by decide +kernel
theorem dX11_throwsAt_72 : decode cX11_throwsAt 72 = .ok (.iload 4, 2) := by decide +kernel
theorem dX11_throwsAt_74 : decode cX11_throwsAt 74 = .ok (.iload 6, 2) := by decide +kernel
theorem dX11_throwsAt_76 : decode cX11_throwsAt 76 = .ok (.iastore, 1) := by decide +kernel
theorem dX11_throwsAt_77 : decode cX11_throwsAt 77 = .ok (.aload_n 0, 1) := by decide +kernel
theorem dX11_throwsAt_78 : decode cX11_throwsAt 78 = .ok (.getfield 125, 3) := by decide +kernel
theorem dX11_throwsAt_81 : decode cX11_throwsAt 81 = .ok (.bipush 72, 2) := by decide +kernel
theorem dX11_throwsAt_83 : decode cX11_throwsAt 83 = .ok (.iload 4, 2) := by decide +kernel
theorem dX11_throwsAt_85 : decode cX11_throwsAt 85 = .ok (.iadd, 1) := by decide +kernel
theorem dX11_throwsAt_86 : decode cX11_throwsAt 86 = .ok (.aload_n 0, 1) := by decide +kernel
theorem dX11_throwsAt_87 : decode cX11_throwsAt 87 = .ok (.getfield 128, 3) := by decide +kernel
theorem dX11_throwsAt_90 : decode cX11_throwsAt 90 = .ok (.iload 6, 2) := by decide +kernel
theorem dX11_throwsAt_92 : decode cX11_throwsAt 92 = .ok (.iaload, 1) := by decide +kernel
theorem dX11_throwsAt_93 : decode cX11_throwsAt 93 = .ok (.iastore, 1) := by decide +kernel
theorem dX11_throwsAt_94 : decode cX11_throwsAt 94 = .ok (.aload_n 0, 1) := by decide +kernel
theorem dX11_throwsAt_95 : decode cX11_throwsAt 95 = .ok (.getfield 128, 3) := by decide +kernel
theorem dX11_throwsAt_98 : decode cX11_throwsAt 98 = .ok (.iload 6, 2) := by decide +kernel
theorem dX11_throwsAt_100 : decode cX11_throwsAt 100 = .ok (.dup2, 1) := by decide +kernel
theorem dX11_throwsAt_101 : decode cX11_throwsAt 101 = .ok (.iaload, 1) := by decide +kernel
theorem dX11_throwsAt_102 : decode cX11_throwsAt 102 = .ok (.iconst 1, 1) := by decide +kernel
theorem dX11_throwsAt_103 : decode cX11_throwsAt 103 = .ok (.iadd, 1) := by decide +kernel
theorem dX11_throwsAt_104 : decode cX11_throwsAt 104 = .ok (.iastore, 1) := by decide +kernel
theorem dX11_throwsAt_105 : decode cX11_throwsAt 105 = .ok (.aload_n 0, 1) := by decide +kernel
theorem dX11_throwsAt_106 : decode cX11_throwsAt 106 = .ok (.getfield 125, 3) := by decide +kernel
theorem dX11_throwsAt_109 : decode cX11_throwsAt 109 = .ok (.sipush 144, 3) := by decide +kernel
theorem dX11_throwsAt_112 : decode cX11_throwsAt 112 = .ok (.iload 6, 2) := by decide +kernel
theorem dX11_throwsAt_114 : decode cX11_throwsAt 114 = .ok (.iadd, 1) := by decide +kernel
theorem dX11_throwsAt_115 : decode cX11_throwsAt 115 = .ok (.iconst 0, 1) := by decide +kernel
theorem dX11_throwsAt_116 : decode cX11_throwsAt 116 = .ok (.iastore, 1) := by decide +kernel
theorem dX11_throwsAt_117 : decode cX11_throwsAt 117 = .ok (.iload 6, 2) := by decide +kernel
theorem dX11_throwsAt_119 : decode cX11_throwsAt 119 = .ok (.ireturn, 1) := by decide +kernel
theorem dX11_carries_0 : decode cX11_carries 0 = .ok (.aload_n 0, 1) := by decide +kernel
theorem dX11_carries_1 : decode cX11_carries 1 = .ok (.getfield 128, 3) := by decide +kernel
theorem dX11_carries_4 : decode cX11_carries 4 = .ok (.iload_n 1, 1) := by decide +kernel
theorem dX11_carries_5 : decode cX11_carries 5 = .ok (.iaload, 1) := by decide +kernel
theorem dX11_carries_6 : decode cX11_carries 6 = .ok (.iload_n 2, 1) := by decide +kernel
theorem dX11_carries_7 : decode cX11_carries 7 = .ok (.isub, 1) := by decide +kernel
theorem dX11_carries_8 : decode cX11_carries 8 = .ok (.istore 4, 2) := by decide +kernel
theorem dX11_carries_10 : decode cX11_carries 10 = .ok (.iload_n 1, 1) := by decide +kernel
theorem dX11_carries_11 : decode cX11_carries 11 = .ok (.bipush 12, 2) := by decide +kernel
theorem dX11_carries_13 : decode cX11_carries 13 = .ok (.irem, 1) := by decide +kernel
theorem dX11_carries_14 : decode cX11_carries 14 = .ok (.iload_n 3, 1) := by decide +kernel
theorem dX11_carries_15 : decode cX11_carries 15 = .ok (.iadd, 1) := by decide +kernel
theorem dX11_carries_16 : decode cX11_carries 16 = .ok (.istore 5, 2) := by decide +kernel
theorem dX11_carries_18 : decode cX11_carries 18 = .ok (.iload 5, 2) := by decide +kernel
theorem dX11_carries_20 : decode cX11_carries 20 = .ok (.aload_n 0, 1) := by decide +kernel
theorem dX11_carries_21 : decode cX11_carries 21 = .ok (.getfield 43, 3) := by decide +kernel
theorem dX11_carries_24 : decode cX11_carries 24 = .ok (.aload_n 0, 1) := by decide +kernel
theorem dX11_carries_25 : decode cX11_carries 25 = .ok (.getfield 269, 3) := by decide +kernel
theorem dX11_carries_28 : decode cX11_carries 28 = .ok (.iaload, 1) := by decide +kernel
theorem dX11_carries_29 : decode cX11_carries 29 = .ok (.if_icmp .ge 9, 3) := by decide +kernel
theorem dX11_carries_32 : decode cX11_carries 32 = .ok (.iload_n 1, 1) := by decide +kernel
theorem dX11_carries_33 : decode cX11_carries 33 = .ok (.iload_n 3, 1) := by decide +kernel
theorem dX11_carries_34 : decode cX11_carries 34 = .ok (.iadd, 1) := by decide +kernel
theorem dX11_carries_35 : decode cX11_carries 35 = .ok (.goto 5, 3) := by decide +kernel
theorem dX11_carries_38 : decode cX11_carries 38 = .ok (.bipush (-2), 2) := by decide +kernel
theorem dX11_carries_40 : decode cX11_carries 40 = .ok (.istore 6, 2) := by decide +kernel
theorem dX11_carries_42 : decode cX11_carries 42 = .ok (.iconst 0, 1) := by decide +kernel
theorem dX11_carries_43 : decode cX11_carries 43 = .ok (.istore 7, 2) := by decide +kernel
theorem dX11_carries_45 : decode cX11_carries 45 = .ok (.iload 7, 2) := by decide +kernel
theorem dX11_carries_47 : decode cX11_carries 47 = .ok (.bipush 72, 2) := by decide +kernel
theorem dX11_carries_49 : decode cX11_carries 49 = .ok (.if_icmp .ge 75, 3) := by decide +kernel
theorem dX11_carries_52 : decode cX11_carries 52 = .ok (.aload_n 0, 1) := by decide +kernel
theorem dX11_carries_53 : decode cX11_carries 53 = .ok (.getfield 125, 3) := by decide +kernel
theorem dX11_carries_56 : decode cX11_carries 56 = .ok (.iload 7, 2) := by decide +kernel
theorem dX11_carries_58 : decode cX11_carries 58 = .ok (.iaload, 1) := by decide +kernel
theorem dX11_carries_59 : decode cX11_carries 59 = .ok (.iload_n 1, 1) := by decide +kernel
theorem dX11_carries_60 : decode cX11_carries 60 = .ok (.if_icmp .ne 58, 3) := by decide +kernel
theorem dX11_carries_63 : decode cX11_carries 63 = .ok (.aload_n 0, 1) := by decide +kernel
theorem dX11_carries_64 : decode cX11_carries 64 = .ok (.getfield 125, 3) := by decide +kernel
theorem dX11_carries_67 : decode cX11_carries 67 = .ok (.bipush 72, 2) := by decide +kernel
theorem dX11_carries_69 : decode cX11_carries 69 = .ok (.iload 7, 2) := by decide +kernel
theorem dX11_carries_71 : decode cX11_carries 71 = .ok (.iadd, 1) := by decide +kernel
theorem dX11_carries_72 : decode cX11_carries 72 = .ok (.iaload, 1) := by decide +kernel
theorem dX11_carries_73 : decode cX11_carries 73 = .ok (.iload 4, 2) := by decide +kernel
theorem dX11_carries_75 : decode cX11_carries 75 = .ok (.if_icmp .ge 6, 3) := by decide +kernel
theorem dX11_carries_78 : decode cX11_carries 78 = .ok (.goto 40, 3) := by decide +kernel
theorem dX11_carries_81 : decode cX11_carries 81 = .ok (.aload_n 0, 1) := by decide +kernel
theorem dX11_carries_82 : decode cX11_carries 82 = .ok (.getfield 125, 3) := by decide +kernel
theorem dX11_carries_85 : decode cX11_carries 85 = .ok (.iload 7, 2) := by decide +kernel
theorem dX11_carries_87 : decode cX11_carries 87 = .ok (.iload 6, 2) := by decide +kernel
theorem dX11_carries_89 : decode cX11_carries 89 = .ok (.iastore, 1) := by decide +kernel
theorem dX11_carries_90 : decode cX11_carries 90 = .ok (.iload 6, 2) := by decide +kernel
theorem dX11_carries_92 : decode cX11_carries 92 = .ok (.ifCond .lt 26, 3) := by decide +kernel
theorem dX11_carries_95 : decode cX11_carries 95 = .ok (.aload_n 0, 1) := by decide +kernel
theorem dX11_carries_96 : decode cX11_carries 96 = .ok (.getfield 125, 3) := by decide +kernel
theorem dX11_carries_99 : decode cX11_carries 99 = .ok (.bipush 72, 2) := by decide +kernel
theorem dX11_carries_101 : decode cX11_carries 101 = .ok (.iload 7, 2) := by decide +kernel
theorem dX11_carries_103 : decode cX11_carries 103 = .ok (.iadd, 1) := by decide +kernel
theorem dX11_carries_104 : decode cX11_carries 104 = .ok (.dup2, 1) := by decide +kernel
theorem dX11_carries_105 : decode cX11_carries 105 = .ok (.iaload, 1) := by decide +kernel
theorem dX11_carries_106 : decode cX11_carries 106 = .ok (.aload_n 0, 1) := by decide +kernel
theorem dX11_carries_107 : decode cX11_carries 107 = .ok (.getfield 128, 3) := by decide +kernel
theorem dX11_carries_110 : decode cX11_carries 110 = .ok (.iload 6, 2) := by decide +kernel
theorem dX11_carries_112 : decode cX11_carries 112 = .ok (.iaload, 1) := by decide +kernel
theorem dX11_carries_113 : decode cX11_carries 113 = .ok (.iload 4, 2) := by decide +kernel
theorem dX11_carries_115 : decode cX11_carries 115 = .ok (.isub, 1) := by decide +kernel
theorem dX11_carries_116 : decode cX11_carries 116 = .ok (.iadd, 1) := by decide +kernel
theorem dX11_carries_117 : decode cX11_carries 117 = .ok (.iastore, 1) := by decide +kernel
theorem dX11_carries_118 : decode cX11_carries 118 = .ok (.iinc 7 1, 3) := by decide +kernel
theorem dX11_carries_121 : decode cX11_carries 121 = .ok (.goto (-76), 3) := by decide +kernel
theorem dX11_carries_124 : decode cX11_carries 124 = .ok (.aload_n 0, 1) := by decide +kernel
theorem dX11_carries_125 : decode cX11_carries 125 = .ok (.getfield 128, 3) := by decide +kernel
theorem dX11_carries_128 : decode cX11_carries 128 = .ok (.iload_n 1, 1) := by decide +kernel
theorem dX11_carries_129 : decode cX11_carries 129 = .ok (.iload 4, 2) := by decide +kernel
theorem dX11_carries_131 : decode cX11_carries 131 = .ok (.iastore, 1) := by decide +kernel
theorem dX11_carries_132 : decode cX11_carries 132 = .ok (.aload_n 0, 1) := by decide +kernel
theorem dX11_carries_133 : decode cX11_carries 133 = .ok (.getfield 125, 3) := by decide +kernel
theorem dX11_carries_136 : decode cX11_carries 136 = .ok (.sipush 144, 3) := by decide +kernel
theorem dX11_carries_139 : decode cX11_carries 139 = .ok (.iload_n 1, 1) := by decide +kernel
theorem dX11_carries_140 : decode cX11_carries 140 = .ok (.iadd, 1) := by decide +kernel
theorem dX11_carries_141 : decode cX11_carries 141 = .ok (.iconst 0, 1) := by decide +kernel
theorem dX11_carries_142 : decode cX11_carries 142 = .ok (.iastore, 1) := by decide +kernel
theorem dX11_carries_143 : decode cX11_carries 143 = .ok (.iload 6, 2) := by decide +kernel
theorem dX11_carries_145 : decode cX11_carries 145 = .ok (.ifCond .ge 4, 3) := by decide +kernel
theorem dX11_carries_148 : decode cX11_carries 148 = .ok (.return_, 1) := by decide +kernel
theorem dX11_carries_149 : decode cX11_carries 149 = .ok (.aload_n 0, 1) := by decide +kernel
theorem dX11_carries_150 : decode cX11_carries 150 = .ok (.getfield 128, 3) := by decide +kernel
theorem dX11_carries_153 : decode cX11_carries 153 = .ok (.iload 6, 2) := by decide +kernel
theorem dX11_carries_155 : decode cX11_carries 155 = .ok (.dup2, 1) := by decide +kernel
theorem dX11_carries_156 : decode cX11_carries 156 = .ok (.iaload, 1) := by decide +kernel
theorem dX11_carries_157 : decode cX11_carries 157 = .ok (.iload_n 2, 1) := by decide +kernel
theorem dX11_carries_158 : decode cX11_carries 158 = .ok (.iadd, 1) := by decide +kernel
theorem dX11_carries_159 : decode cX11_carries 159 = .ok (.iastore, 1) := by decide +kernel
theorem dX11_carries_160 : decode cX11_carries 160 = .ok (.aload_n 0, 1) := by decide +kernel
theorem dX11_carries_161 : decode cX11_carries 161 = .ok (.getfield 125, 3) := by decide +kernel
theorem dX11_carries_164 : decode cX11_carries 164 = .ok (.sipush 144, 3) := by decide +kernel
theorem dX11_carries_167 : decode cX11_carries 167 = .ok (.iload 6, 2) := by decide +kernel
theorem dX11_carries_169 : decode cX11_carries 169 = .ok (.iadd, 1) := by decide +kernel
theorem dX11_carries_170 : decode cX11_carries 170 = .ok (.iconst 0, 1) := by decide +kernel
theorem dX11_carries_171 : decode cX11_carries 171 = .ok (.iastore, 1) := by decide +kernel
theorem dX11_carries_172 : decode cX11_carries 172 = .ok (.return_, 1) := by decide +kernel
theorem dX11_dayGoes_0 : decode cX11_dayGoes 0 = .ok (.iconst 0, 1) := by decide +kernel
theorem dX11_dayGoes_1 : decode cX11_dayGoes 1 = .ok (.istore_n 1, 1) := by decide +kernel
theorem dX11_dayGoes_2 : decode cX11_dayGoes 2 = .ok (.iload_n 1, 1) := by decide +kernel
theorem dX11_dayGoes_3 : decode cX11_dayGoes 3 = .ok (.bipush 96, 2) := by decide +kernel
theorem dX11_dayGoes_5 : decode cX11_dayGoes 5 = .ok (.if_icmp .ge 47, 3) := by decide +kernel
theorem dX11_dayGoes_8 : decode cX11_dayGoes 8 = .ok (.aload_n 0, 1) := by decide +kernel
theorem dX11_dayGoes_9 : decode cX11_dayGoes 9 = .ok (.getfield 128, 3) := by decide +kernel
theorem dX11_dayGoes_12 : decode cX11_dayGoes 12 = .ok (.iload_n 1, 1) := by decide +kernel
theorem dX11_dayGoes_13 : decode cX11_dayGoes 13 = .ok (.iaload, 1) := by decide +kernel
theorem dX11_dayGoes_14 : decode cX11_dayGoes 14 = .ok (.ifCond .le 32, 3) := by decide +kernel
theorem dX11_dayGoes_17 : decode cX11_dayGoes 17 = .ok (.aload_n 0, 1) := by decide +kernel
theorem dX11_dayGoes_18 : decode cX11_dayGoes 18 = .ok (.getfield 125, 3) := by decide +kernel
theorem dX11_dayGoes_21 : decode cX11_dayGoes 21 = .ok (.sipush 144, 3) := by decide +kernel
theorem dX11_dayGoes_24 : decode cX11_dayGoes 24 = .ok (.iload_n 1, 1) := by decide +kernel
theorem dX11_dayGoes_25 : decode cX11_dayGoes 25 = .ok (.iadd, 1) := by decide +kernel
theorem dX11_dayGoes_26 : decode cX11_dayGoes 26 = .ok (.iaload, 1) := by decide +kernel
theorem dX11_dayGoes_27 : decode cX11_dayGoes 27 = .ok (.bipush 99, 2) := by decide +kernel
theorem dX11_dayGoes_29 : decode cX11_dayGoes 29 = .ok (.if_icmp .ge 17, 3) := by decide +kernel
theorem dX11_dayGoes_32 : decode cX11_dayGoes 32 = .ok (.aload_n 0, 1) := by decide +kernel
theorem dX11_dayGoes_33 : decode cX11_dayGoes 33 = .ok (.getfield 125, 3) := by decide +kernel
theorem dX11_dayGoes_36 : decode cX11_dayGoes 36 = .ok (.sipush 144, 3) := by decide +kernel
theorem dX11_dayGoes_39 : decode cX11_dayGoes 39 = .ok (.iload_n 1, 1) := by decide +kernel
theorem dX11_dayGoes_40 : decode cX11_dayGoes 40 = .ok (.iadd, 1) := by decide +kernel
theorem dX11_dayGoes_41 : decode cX11_dayGoes 41 = .ok (.dup2, 1) := by decide +kernel
theorem dX11_dayGoes_42 : decode cX11_dayGoes 42 = .ok (.iaload, 1) := by decide +kernel
theorem dX11_dayGoes_43 : decode cX11_dayGoes 43 = .ok (.iconst 1, 1) := by decide +kernel
theorem dX11_dayGoes_44 : decode cX11_dayGoes 44 = .ok (.iadd, 1) := by decide +kernel
theorem dX11_dayGoes_45 : decode cX11_dayGoes 45 = .ok (.iastore, 1) := by decide +kernel
theorem dX11_dayGoes_46 : decode cX11_dayGoes 46 = .ok (.iinc 1 1, 3) := by decide +kernel
theorem dX11_dayGoes_49 : decode cX11_dayGoes 49 = .ok (.goto (-47), 3) := by decide +kernel
theorem dX11_dayGoes_52 : decode cX11_dayGoes 52 = .ok (.iconst 0, 1) := by decide +kernel
theorem dX11_dayGoes_53 : decode cX11_dayGoes 53 = .ok (.istore_n 1, 1) := by decide +kernel
theorem dX11_dayGoes_54 : decode cX11_dayGoes 54 = .ok (.iload_n 1, 1) := by decide +kernel
theorem dX11_dayGoes_55 : decode cX11_dayGoes 55 = .ok (.aload_n 0, 1) := by decide +kernel
theorem dX11_dayGoes_56 : decode cX11_dayGoes 56 = .ok (.getfield 76, 3) := by decide +kernel
theorem dX11_dayGoes_59 : decode cX11_dayGoes 59 = .ok (.aload_n 0, 1) := by decide +kernel
theorem dX11_dayGoes_60 : decode cX11_dayGoes 60 = .ok (.getfield 269, 3) := by decide +kernel
theorem dX11_dayGoes_63 : decode cX11_dayGoes 63 = .ok (.iaload, 1) := by decide +kernel
theorem dX11_dayGoes_64 : decode cX11_dayGoes 64 = .ok (.if_icmp .ge 137, 3) := by decide +kernel
theorem dX11_dayGoes_67 : decode cX11_dayGoes 67 = .ok (.aload_n 0, 1) := by decide +kernel
theorem dX11_dayGoes_68 : decode cX11_dayGoes 68 = .ok (.getfield 79, 3) := by decide +kernel
theorem dX11_dayGoes_71 : decode cX11_dayGoes 71 = .ok (.bipush 8, 2) := by decide +kernel
theorem dX11_dayGoes_73 : decode cX11_dayGoes 73 = .ok (.aload_n 0, 1) := by decide +kernel
theorem dX11_dayGoes_74 : decode cX11_dayGoes 74 = .ok (.getfield 269, 3) := by decide +kernel
theorem dX11_dayGoes_77 : decode cX11_dayGoes 77 = .ok (.imul, 1) := by decide +kernel
theorem dX11_dayGoes_78 : decode cX11_dayGoes 78 = .ok (.iload_n 1, 1) := by decide +kernel
theorem dX11_dayGoes_79 : decode cX11_dayGoes 79 = .ok (.iadd, 1) := by decide +kernel
theorem dX11_dayGoes_80 : decode cX11_dayGoes 80 = .ok (.iaload, 1) := by decide +kernel
theorem dX11_dayGoes_81 : decode cX11_dayGoes 81 = .ok (.aload_n 0, 1) := by decide +kernel
theorem dX11_dayGoes_82 : decode cX11_dayGoes 82 = .ok (.getfield 125, 3) := by decide +kernel
theorem dX11_dayGoes_85 : decode cX11_dayGoes 85 = .ok (.sipush 240, 3) := by decide +kernel
theorem dX11_dayGoes_88 : decode cX11_dayGoes 88 = .ok (.iaload, 1) := by decide +kernel
theorem dX11_dayGoes_89 : decode cX11_dayGoes 89 = .ok (.if_icmp .eq 6, 3) := by decide +kernel
theorem dX11_dayGoes_92 : decode cX11_dayGoes 92 = .ok (.goto 103, 3) := by decide +kernel
theorem dX11_dayGoes_95 : decode cX11_dayGoes 95 = .ok (.aload_n 0, 1) := by decide +kernel
theorem dX11_dayGoes_96 : decode cX11_dayGoes 96 = .ok (.getfield 82, 3) := by decide +kernel
theorem dX11_dayGoes_99 : decode cX11_dayGoes 99 = .ok (.bipush 8, 2) := by decide +kernel
theorem dX11_dayGoes_101 : decode cX11_dayGoes 101 = .ok (.aload_n 0, 1) := by decide +kernel
theorem dX11_dayGoes_102 : decode cX11_dayGoes 102 = .ok (.getfield 269, 3) := by decide +kernel
theorem dX11_dayGoes_105 : decode cX11_dayGoes 105 = .ok (.imul, 1) := by decide +kernel
theorem dX11_dayGoes_106 : decode cX11_dayGoes 106 = .ok (.iload_n 1, 1) := by decide +kernel
theorem dX11_dayGoes_107 : decode cX11_dayGoes 107 = .ok (.iadd, 1) := by decide +kernel
theorem dX11_dayGoes_108 : decode cX11_dayGoes 108 = .ok (.iaload, 1) := by decide +kernel
theorem dX11_dayGoes_109 : decode cX11_dayGoes 109 = .ok (.istore_n 2, 1) := by decide +kernel
theorem dX11_dayGoes_110 : decode cX11_dayGoes 110 = .ok (.iconst 0, 1) := by decide +kernel
theorem dX11_dayGoes_111 : decode cX11_dayGoes 111 = .ok (.istore_n 3, 1) := by decide +kernel
theorem dX11_dayGoes_112 : decode cX11_dayGoes 112 = .ok (.iload_n 3, 1) := by decide +kernel
theorem dX11_dayGoes_113 : decode cX11_dayGoes 113 = .ok (.aload_n 0, 1) := by decide +kernel
theorem dX11_dayGoes_114 : decode cX11_dayGoes 114 = .ok (.getfield 46, 3) := by decide +kernel
theorem dX11_dayGoes_117 : decode cX11_dayGoes 117 = .ok (.aload_n 0, 1) := by decide +kernel
theorem dX11_dayGoes_118 : decode cX11_dayGoes 118 = .ok (.getfield 269, 3) := by decide +kernel
theorem dX11_dayGoes_121 : decode cX11_dayGoes 121 = .ok (.iaload, 1) := by decide +kernel
theorem dX11_dayGoes_122 : decode cX11_dayGoes 122 = .ok (.if_icmp .ge 73, 3) := by decide +kernel
theorem dX11_dayGoes_125 : decode cX11_dayGoes 125 = .ok (.aload_n 0, 1) := by decide +kernel
theorem dX11_dayGoes_126 : decode cX11_dayGoes 126 = .ok (.getfield 43, 3) := by decide +kernel
theorem dX11_dayGoes_129 : decode cX11_dayGoes 129 = .ok (.aload_n 0, 1) := by decide +kernel
theorem dX11_dayGoes_130 : decode cX11_dayGoes 130 = .ok (.getfield 269, 3) := by decide +kernel
theorem dX11_dayGoes_133 : decode cX11_dayGoes 133 = .ok (.iaload, 1) := by decide +kernel
theorem dX11_dayGoes_134 : decode cX11_dayGoes 134 = .ok (.iconst 1, 1) := by decide +kernel
theorem dX11_dayGoes_135 : decode cX11_dayGoes 135 = .ok (.isub, 1) := by decide +kernel
theorem dX11_dayGoes_136 : decode cX11_dayGoes 136 = .ok (.istore 4, 2) := by decide +kernel
theorem dX11_dayGoes_138 : decode cX11_dayGoes 138 = .ok (.iload 4, 2) := by decide +kernel
theorem dX11_dayGoes_140 : decode cX11_dayGoes 140 = .ok (.ifCond .lt 49, 3) := by decide +kernel
theorem dX11_dayGoes_143 : decode cX11_dayGoes 143 = .ok (.bipush 12, 2) := by decide +kernel
theorem dX11_dayGoes_145 : decode cX11_dayGoes 145 = .ok (.iload_n 3, 1) := by decide +kernel
theorem dX11_dayGoes_146 : decode cX11_dayGoes 146 = .ok (.imul, 1) := by decide +kernel
theorem dX11_dayGoes_147 : decode cX11_dayGoes 147 = .ok (.iload 4, 2) := by decide +kernel
theorem dX11_dayGoes_149 : decode cX11_dayGoes 149 = .ok (.iadd, 1) := by decide +kernel
theorem dX11_dayGoes_150 : decode cX11_dayGoes 150 = .ok (.istore 5, 2) := by decide +kernel
theorem dX11_dayGoes_152 : decode cX11_dayGoes 152 = .ok (.aload_n 0, 1) := by decide +kernel
theorem dX11_dayGoes_153 : decode cX11_dayGoes 153 = .ok (.iconst 0, 1) := by decide +kernel
theorem dX11_dayGoes_154 : decode cX11_dayGoes 154 = .ok (.iload 5, 2) := by decide +kernel
theorem dX11_dayGoes_156 : decode cX11_dayGoes 156 = .ok (.iload_n 2, 1) := by decide +kernel
theorem dX11_dayGoes_157 : decode cX11_dayGoes 157 = .ok (.aload_n 0, 1) := by decide +kernel
theorem dX11_dayGoes_158 : decode cX11_dayGoes 158 = .ok (.getfield 128, 3) := by decide +kernel
theorem dX11_dayGoes_161 : decode cX11_dayGoes 161 = .ok (.iload 5, 2) := by decide +kernel
theorem dX11_dayGoes_163 : decode cX11_dayGoes 163 = .ok (.iaload, 1) := by decide +kernel
theorem dX11_dayGoes_164 : decode cX11_dayGoes 164 = .ok (.invokevirtual 361, 3) := by decide +kernel
theorem dX11_dayGoes_167 : decode cX11_dayGoes 167 = .ok (.istore 6, 2) := by decide +kernel
theorem dX11_dayGoes_169 : decode cX11_dayGoes 169 = .ok (.iload 6, 2) := by decide +kernel
theorem dX11_dayGoes_171 : decode cX11_dayGoes 171 = .ok (.ifCond .le 12, 3) := by decide +kernel
theorem dX11_dayGoes_174 : decode cX11_dayGoes 174 = .ok (.aload_n 0, 1) := by decide +kernel
theorem dX11_dayGoes_175 : decode cX11_dayGoes 175 = .ok (.iload 5, 2) := by decide +kernel
theorem dX11_dayGoes_177 : decode cX11_dayGoes 177 = .ok (.iload 6, 2) := by decide +kernel
theorem dX11_dayGoes_179 : decode cX11_dayGoes 179 = .ok (.iload_n 2, 1) := by decide +kernel
theorem dX11_dayGoes_180 : decode cX11_dayGoes 180 = .ok (.invokevirtual 365, 3) := by decide +kernel
theorem dX11_dayGoes_183 : decode cX11_dayGoes 183 = .ok (.iinc 4 (-1), 3) := by decide +kernel
theorem dX11_dayGoes_186 : decode cX11_dayGoes 186 = .ok (.goto (-48), 3) := by decide +kernel
theorem dX11_dayGoes_189 : decode cX11_dayGoes 189 = .ok (.iinc 3 1, 3) := by decide +kernel
theorem dX11_dayGoes_192 : decode cX11_dayGoes 192 = .ok (.goto (-80), 3) := by decide +kernel
theorem dX11_dayGoes_195 : decode cX11_dayGoes 195 = .ok (.iinc 1 1, 3) := by decide +kernel
theorem dX11_dayGoes_198 : decode cX11_dayGoes 198 = .ok (.goto (-144), 3) := by decide +kernel
theorem dX11_dayGoes_201 : decode cX11_dayGoes 201 = .ok (.aload_n 0, 1) := by decide +kernel
theorem dX11_dayGoes_202 : decode cX11_dayGoes 202 = .ok (.getfield 125, 3) := by decide +kernel
theorem dX11_dayGoes_205 : decode cX11_dayGoes 205 = .ok (.sipush 240, 3) := by decide +kernel
theorem dX11_dayGoes_208 : decode cX11_dayGoes 208 = .ok (.dup2, 1) := by decide +kernel
theorem dX11_dayGoes_209 : decode cX11_dayGoes 209 = .ok (.iaload, 1) := by decide +kernel
theorem dX11_dayGoes_210 : decode cX11_dayGoes 210 = .ok (.iconst 1, 1) := by decide +kernel
theorem dX11_dayGoes_211 : decode cX11_dayGoes 211 = .ok (.iadd, 1) := by decide +kernel
theorem dX11_dayGoes_212 : decode cX11_dayGoes 212 = .ok (.iastore, 1) := by decide +kernel
theorem dX11_dayGoes_213 : decode cX11_dayGoes 213 = .ok (.return_, 1) := by decide +kernel
theorem dX11_cell_0 : decode cX11_cell 0 = .ok (.aload_n 0, 1) := by decide +kernel
theorem dX11_cell_1 : decode cX11_cell 1 = .ok (.iload_n 1, 1) := by decide +kernel
theorem dX11_cell_2 : decode cX11_cell 2 = .ok (.iload_n 2, 1) := by decide +kernel
theorem dX11_cell_3 : decode cX11_cell 3 = .ok (.invokevirtual 369, 3) := by decide +kernel
theorem dX11_cell_6 : decode cX11_cell 6 = .ok (.ifCond .ne 5, 3) := by decide +kernel
theorem dX11_cell_9 : decode cX11_cell 9 = .ok (.iconst (-1), 1) := by decide +kernel
theorem dX11_cell_10 : decode cX11_cell 10 = .ok (.ireturn, 1) := by decide +kernel
theorem dX11_cell_11 : decode cX11_cell 11 = .ok (.aload_n 0, 1) := by decide +kernel
theorem dX11_cell_12 : decode cX11_cell 12 = .ok (.invokevirtual 373, 3) := by decide +kernel
theorem dX11_cell_15 : decode cX11_cell 15 = .ok (.bipush 12, 2) := by decide +kernel
theorem dX11_cell_17 : decode cX11_cell 17 = .ok (.iload_n 2, 1) := by decide +kernel
theorem dX11_cell_18 : decode cX11_cell 18 = .ok (.imul, 1) := by decide +kernel
theorem dX11_cell_19 : decode cX11_cell 19 = .ok (.iload_n 1, 1) := by decide +kernel
theorem dX11_cell_20 : decode cX11_cell 20 = .ok (.iadd, 1) := by decide +kernel
theorem dX11_cell_21 : decode cX11_cell 21 = .ok (.istore 4, 2) := by decide +kernel
theorem dX11_cell_23 : decode cX11_cell 23 = .ok (.iload_n 3, 1) := by decide +kernel
theorem dX11_cell_24 : decode cX11_cell 24 = .ok (.tableswitch 138 0 5 #[40, 48, 55, 67, 82, 107], 40) := by decide +kernel
theorem dX11_cell_64 : decode cX11_cell 64 = .ok (.aload_n 0, 1) := by decide +kernel
theorem dX11_cell_65 : decode cX11_cell 65 = .ok (.getfield 128, 3) := by decide +kernel
theorem dX11_cell_68 : decode cX11_cell 68 = .ok (.iload 4, 2) := by decide +kernel
theorem dX11_cell_70 : decode cX11_cell 70 = .ok (.iaload, 1) := by decide +kernel
theorem dX11_cell_71 : decode cX11_cell 71 = .ok (.ireturn, 1) := by decide +kernel
theorem dX11_cell_72 : decode cX11_cell 72 = .ok (.aload_n 0, 1) := by decide +kernel
theorem dX11_cell_73 : decode cX11_cell 73 = .ok (.iload 4, 2) := by decide +kernel
theorem dX11_cell_75 : decode cX11_cell 75 = .ok (.invokevirtual 349, 3) := by decide +kernel
theorem dX11_cell_78 : decode cX11_cell 78 = .ok (.ireturn, 1) := by decide +kernel
theorem dX11_cell_79 : decode cX11_cell 79 = .ok (.aload_n 0, 1) := by decide +kernel
theorem dX11_cell_80 : decode cX11_cell 80 = .ok (.getfield 125, 3) := by decide +kernel
theorem dX11_cell_83 : decode cX11_cell 83 = .ok (.sipush 144, 3) := by decide +kernel
theorem dX11_cell_86 : decode cX11_cell 86 = .ok (.iload 4, 2) := by decide +kernel
theorem dX11_cell_88 : decode cX11_cell 88 = .ok (.iadd, 1) := by decide +kernel
theorem dX11_cell_89 : decode cX11_cell 89 = .ok (.iaload, 1) := by decide +kernel
theorem dX11_cell_90 : decode cX11_cell 90 = .ok (.ireturn, 1) := by decide +kernel
theorem dX11_cell_91 : decode cX11_cell 91 = .ok (.aload_n 0, 1) := by decide +kernel
theorem dX11_cell_92 : decode cX11_cell 92 = .ok (.iload 4, 2) := by decide +kernel
theorem dX11_cell_94 : decode cX11_cell 94 = .ok (.invokevirtual 376, 3) := by decide +kernel
theorem dX11_cell_97 : decode cX11_cell 97 = .ok (.ifCond .eq 7, 3) := by decide +kernel
theorem dX11_cell_100 : decode cX11_cell 100 = .ok (.iconst 1, 1) := by decide +kernel
theorem dX11_cell_101 : decode cX11_cell 101 = .ok (.goto 4, 3) := by decide +kernel
theorem dX11_cell_104 : decode cX11_cell 104 = .ok (.iconst 0, 1) := by decide +kernel
theorem dX11_cell_105 : decode cX11_cell 105 = .ok (.ireturn, 1) := by decide +kernel
theorem dX11_cell_106 : decode cX11_cell 106 = .ok (.aload_n 0, 1) := by decide +kernel
theorem dX11_cell_107 : decode cX11_cell 107 = .ok (.iload 4, 2) := by decide +kernel
theorem dX11_cell_109 : decode cX11_cell 109 = .ok (.invokevirtual 376, 3) := by decide +kernel
theorem dX11_cell_112 : decode cX11_cell 112 = .ok (.ifCond .eq 16, 3) := by decide +kernel
theorem dX11_cell_115 : decode cX11_cell 115 = .ok (.aload_n 0, 1) := by decide +kernel
theorem dX11_cell_116 : decode cX11_cell 116 = .ok (.iconst 1, 1) := by decide +kernel
theorem dX11_cell_117 : decode cX11_cell 117 = .ok (.iload 4, 2) := by decide +kernel
theorem dX11_cell_119 : decode cX11_cell 119 = .ok (.iconst 0, 1) := by decide +kernel
theorem dX11_cell_120 : decode cX11_cell 120 = .ok (.bipush 100, 2) := by decide +kernel
theorem dX11_cell_122 : decode cX11_cell 122 = .ok (.invokevirtual 361, 3) := by decide +kernel
theorem dX11_cell_125 : decode cX11_cell 125 = .ok (.goto 5, 3) := by decide +kernel
theorem dX11_cell_128 : decode cX11_cell 128 = .ok (.bipush (-2), 2) := by decide +kernel
theorem dX11_cell_130 : decode cX11_cell 130 = .ok (.ireturn, 1) := by decide +kernel
theorem dX11_cell_131 : decode cX11_cell 131 = .ok (.aload_n 0, 1) := by decide +kernel
theorem dX11_cell_132 : decode cX11_cell 132 = .ok (.getfield 128, 3) := by decide +kernel
theorem dX11_cell_135 : decode cX11_cell 135 = .ok (.iload 4, 2) := by decide +kernel
theorem dX11_cell_137 : decode cX11_cell 137 = .ok (.iaload, 1) := by decide +kernel
theorem dX11_cell_138 : decode cX11_cell 138 = .ok (.ifCond .ne 8, 3) := by decide +kernel
theorem dX11_cell_141 : decode cX11_cell 141 = .ok (.bipush (-2), 2) := by decide +kernel
theorem dX11_cell_143 : decode cX11_cell 143 = .ok (.goto 18, 3) := by decide +kernel
theorem dX11_cell_146 : decode cX11_cell 146 = .ok (.aload_n 0, 1) := by decide +kernel
theorem dX11_cell_147 : decode cX11_cell 147 = .ok (.iload 4, 2) := by decide +kernel
theorem dX11_cell_149 : decode cX11_cell 149 = .ok (.aload_n 0, 1) := by decide +kernel
theorem dX11_cell_150 : decode cX11_cell 150 = .ok (.getfield 128, 3) := by decide +kernel
theorem dX11_cell_153 : decode cX11_cell 153 = .ok (.iload 4, 2) := by decide +kernel
theorem dX11_cell_155 : decode cX11_cell 155 = .ok (.iaload, 1) := by decide +kernel
theorem dX11_cell_156 : decode cX11_cell 156 = .ok (.iconst 1, 1) := by decide +kernel
theorem dX11_cell_157 : decode cX11_cell 157 = .ok (.isub, 1) := by decide +kernel
theorem dX11_cell_158 : decode cX11_cell 158 = .ok (.invokevirtual 379, 3) := by decide +kernel
theorem dX11_cell_161 : decode cX11_cell 161 = .ok (.ireturn, 1) := by decide +kernel
theorem dX11_cell_162 : decode cX11_cell 162 = .ok (.iconst (-1), 1) := by decide +kernel
theorem dX11_cell_163 : decode cX11_cell 163 = .ok (.ireturn, 1) := by decide +kernel
theorem dX11_ownerAt_0 : decode cX11_ownerAt 0 = .ok (.iconst 0, 1) := by decide +kernel
theorem dX11_ownerAt_1 : decode cX11_ownerAt 1 = .ok (.istore_n 3, 1) := by decide +kernel
theorem dX11_ownerAt_2 : decode cX11_ownerAt 2 = .ok (.iload_n 3, 1) := by decide +kernel
theorem dX11_ownerAt_3 : decode cX11_ownerAt 3 = .ok (.bipush 72, 2) := by decide +kernel
theorem dX11_ownerAt_5 : decode cX11_ownerAt 5 = .ok (.if_icmp .ge 37, 3) := by decide +kernel
theorem dX11_ownerAt_8 : decode cX11_ownerAt 8 = .ok (.aload_n 0, 1) := by decide +kernel
theorem dX11_ownerAt_9 : decode cX11_ownerAt 9 = .ok (.getfield 125, 3) := by decide +kernel
theorem dX11_ownerAt_12 : decode cX11_ownerAt 12 = .ok (.iload_n 3, 1) := by decide +kernel
theorem dX11_ownerAt_13 : decode cX11_ownerAt 13 = .ok (.iaload, 1) := by decide +kernel
theorem dX11_ownerAt_14 : decode cX11_ownerAt 14 = .ok (.iload_n 1, 1) := by decide +kernel
theorem dX11_ownerAt_15 : decode cX11_ownerAt 15 = .ok (.if_icmp .ne 21, 3) := by decide +kernel
theorem dX11_ownerAt_18 : decode cX11_ownerAt 18 = .ok (.aload_n 0, 1) := by decide +kernel
theorem dX11_ownerAt_19 : decode cX11_ownerAt 19 = .ok (.getfield 125, 3) := by decide +kernel
theorem dX11_ownerAt_22 : decode cX11_ownerAt 22 = .ok (.bipush 72, 2) := by decide +kernel
theorem dX11_ownerAt_24 : decode cX11_ownerAt 24 = .ok (.iload_n 3, 1) := by decide +kernel
theorem dX11_ownerAt_25 : decode cX11_ownerAt 25 = .ok (.iadd, 1) := by decide +kernel
theorem dX11_ownerAt_26 : decode cX11_ownerAt 26 = .ok (.iaload, 1) := by decide +kernel
theorem dX11_ownerAt_27 : decode cX11_ownerAt 27 = .ok (.iload_n 2, 1) := by decide +kernel
theorem dX11_ownerAt_28 : decode cX11_ownerAt 28 = .ok (.if_icmp .ne 8, 3) := by decide +kernel
theorem dX11_ownerAt_31 : decode cX11_ownerAt 31 = .ok (.iload_n 3, 1) := by decide +kernel
theorem dX11_ownerAt_32 : decode cX11_ownerAt 32 = .ok (.bipush 9, 2) := by decide +kernel
theorem dX11_ownerAt_34 : decode cX11_ownerAt 34 = .ok (.idiv, 1) := by decide +kernel
theorem dX11_ownerAt_35 : decode cX11_ownerAt 35 = .ok (.ireturn, 1) := by decide +kernel
theorem dX11_ownerAt_36 : decode cX11_ownerAt 36 = .ok (.iinc 3 1, 3) := by decide +kernel
theorem dX11_ownerAt_39 : decode cX11_ownerAt 39 = .ok (.goto (-37), 3) := by decide +kernel
theorem dX11_ownerAt_42 : decode cX11_ownerAt 42 = .ok (.iconst (-1), 1) := by decide +kernel
theorem dX11_ownerAt_43 : decode cX11_ownerAt 43 = .ok (.ireturn, 1) := by decide +kernel
theorem dX11_stone_0 : decode cX11_stone 0 = .ok (.aload_n 0, 1) := by decide +kernel
theorem dX11_stone_1 : decode cX11_stone 1 = .ok (.iload_n 1, 1) := by decide +kernel
theorem dX11_stone_2 : decode cX11_stone 2 = .ok (.iload_n 2, 1) := by decide +kernel
theorem dX11_stone_3 : decode cX11_stone 3 = .ok (.invokevirtual 369, 3) := by decide +kernel
theorem dX11_stone_6 : decode cX11_stone 6 = .ok (.ifCond .ne 5, 3) := by decide +kernel
theorem dX11_stone_9 : decode cX11_stone 9 = .ok (.iconst (-1), 1) := by decide +kernel
theorem dX11_stone_10 : decode cX11_stone 10 = .ok (.ireturn, 1) := by decide +kernel
theorem dX11_stone_11 : decode cX11_stone 11 = .ok (.aload_n 0, 1) := by decide +kernel
theorem dX11_stone_12 : decode cX11_stone 12 = .ok (.invokevirtual 373, 3) := by decide +kernel
theorem dX11_stone_15 : decode cX11_stone 15 = .ok (.iload_n 3, 1) := by decide +kernel
theorem dX11_stone_16 : decode cX11_stone 16 = .ok (.iconst 0, 1) := by decide +kernel
theorem dX11_stone_17 : decode cX11_stone 17 = .ok (.aload_n 0, 1) := by decide +kernel
theorem dX11_stone_18 : decode cX11_stone 18 = .ok (.getfield 128, 3) := by decide +kernel
theorem dX11_stone_21 : decode cX11_stone 21 = .ok (.bipush 12, 2) := by decide +kernel
theorem dX11_stone_23 : decode cX11_stone 23 = .ok (.iload_n 2, 1) := by decide +kernel
theorem dX11_stone_24 : decode cX11_stone 24 = .ok (.imul, 1) := by decide +kernel
theorem dX11_stone_25 : decode cX11_stone 25 = .ok (.iload_n 1, 1) := by decide +kernel
theorem dX11_stone_26 : decode cX11_stone 26 = .ok (.iadd, 1) := by decide +kernel
theorem dX11_stone_27 : decode cX11_stone 27 = .ok (.iaload, 1) := by decide +kernel
theorem dX11_stone_28 : decode cX11_stone 28 = .ok (.iconst 1, 1) := by decide +kernel
theorem dX11_stone_29 : decode cX11_stone 29 = .ok (.isub, 1) := by decide +kernel
theorem dX11_stone_30 : decode cX11_stone 30 = .ok (.invokestatic 345, 3) := by decide +kernel
theorem dX11_stone_33 : decode cX11_stone 33 = .ok (.ifCond .eq 17, 3) := by decide +kernel
theorem dX11_stone_36 : decode cX11_stone 36 = .ok (.aload_n 0, 1) := by decide +kernel
theorem dX11_stone_37 : decode cX11_stone 37 = .ok (.bipush 12, 2) := by decide +kernel
theorem dX11_stone_39 : decode cX11_stone 39 = .ok (.iload_n 2, 1) := by decide +kernel
theorem dX11_stone_40 : decode cX11_stone 40 = .ok (.imul, 1) := by decide +kernel
theorem dX11_stone_41 : decode cX11_stone 41 = .ok (.iload_n 1, 1) := by decide +kernel
theorem dX11_stone_42 : decode cX11_stone 42 = .ok (.iadd, 1) := by decide +kernel
theorem dX11_stone_43 : decode cX11_stone 43 = .ok (.iload_n 3, 1) := by decide +kernel
theorem dX11_stone_44 : decode cX11_stone 44 = .ok (.invokevirtual 379, 3) := by decide +kernel
theorem dX11_stone_47 : decode cX11_stone 47 = .ok (.goto 4, 3) := by decide +kernel
theorem dX11_stone_50 : decode cX11_stone 50 = .ok (.iconst (-1), 1) := by decide +kernel
theorem dX11_stone_51 : decode cX11_stone 51 = .ok (.ireturn, 1) := by decide +kernel
theorem dX11_leaver_0 : decode cX11_leaver 0 = .ok (.aload_n 0, 1) := by decide +kernel
theorem dX11_leaver_1 : decode cX11_leaver 1 = .ok (.iload_n 1, 1) := by decide +kernel
theorem dX11_leaver_2 : decode cX11_leaver 2 = .ok (.invokevirtual 382, 3) := by decide +kernel
theorem dX11_leaver_5 : decode cX11_leaver 5 = .ok (.ifCond .ne 5, 3) := by decide +kernel
theorem dX11_leaver_8 : decode cX11_leaver 8 = .ok (.iconst (-1), 1) := by decide +kernel
theorem dX11_leaver_9 : decode cX11_leaver 9 = .ok (.ireturn, 1) := by decide +kernel
theorem dX11_leaver_10 : decode cX11_leaver 10 = .ok (.aload_n 0, 1) := by decide +kernel
theorem dX11_leaver_11 : decode cX11_leaver 11 = .ok (.invokevirtual 373, 3) := by decide +kernel
theorem dX11_leaver_14 : decode cX11_leaver 14 = .ok (.iconst 0, 1) := by decide +kernel
theorem dX11_leaver_15 : decode cX11_leaver 15 = .ok (.istore_n 3, 1) := by decide +kernel
theorem dX11_leaver_16 : decode cX11_leaver 16 = .ok (.iconst 0, 1) := by decide +kernel
theorem dX11_leaver_17 : decode cX11_leaver 17 = .ok (.istore 4, 2) := by decide +kernel
theorem dX11_leaver_19 : decode cX11_leaver 19 = .ok (.iconst 0, 1) := by decide +kernel
theorem dX11_leaver_20 : decode cX11_leaver 20 = .ok (.istore 5, 2) := by decide +kernel
theorem dX11_leaver_22 : decode cX11_leaver 22 = .ok (.iload 5, 2) := by decide +kernel
theorem dX11_leaver_24 : decode cX11_leaver 24 = .ok (.bipush 9, 2) := by decide +kernel
theorem dX11_leaver_26 : decode cX11_leaver 26 = .ok (.if_icmp .ge 47, 3) := by decide +kernel
theorem dX11_leaver_29 : decode cX11_leaver 29 = .ok (.aload_n 0, 1) := by decide +kernel
theorem dX11_leaver_30 : decode cX11_leaver 30 = .ok (.getfield 125, 3) := by decide +kernel
theorem dX11_leaver_33 : decode cX11_leaver 33 = .ok (.bipush 9, 2) := by decide +kernel
theorem dX11_leaver_35 : decode cX11_leaver 35 = .ok (.iload_n 1, 1) := by decide +kernel
theorem dX11_leaver_36 : decode cX11_leaver 36 = .ok (.imul, 1) := by decide +kernel
theorem dX11_leaver_37 : decode cX11_leaver 37 = .ok (.iload 5, 2) := by decide +kernel
theorem dX11_leaver_39 : decode cX11_leaver 39 = .ok (.iadd, 1) := by decide +kernel
theorem dX11_leaver_40 : decode cX11_leaver 40 = .ok (.iaload, 1) := by decide +kernel
theorem dX11_leaver_41 : decode cX11_leaver 41 = .ok (.ifCond .lt 6, 3) := by decide +kernel
theorem dX11_leaver_44 : decode cX11_leaver 44 = .ok (.iinc 3 1, 3) := by decide +kernel
theorem dX11_leaver_47 : decode cX11_leaver 47 = .ok (.aload_n 0, 1) := by decide +kernel
theorem dX11_leaver_48 : decode cX11_leaver 48 = .ok (.getfield 125, 3) := by decide +kernel
theorem dX11_leaver_51 : decode cX11_leaver 51 = .ok (.bipush 9, 2) := by decide +kernel
theorem dX11_leaver_53 : decode cX11_leaver 53 = .ok (.iload_n 1, 1) := by decide +kernel
theorem dX11_leaver_54 : decode cX11_leaver 54 = .ok (.imul, 1) := by decide +kernel
theorem dX11_leaver_55 : decode cX11_leaver 55 = .ok (.iload 5, 2) := by decide +kernel
theorem dX11_leaver_57 : decode cX11_leaver 57 = .ok (.iadd, 1) := by decide +kernel
theorem dX11_leaver_58 : decode cX11_leaver 58 = .ok (.iaload, 1) := by decide +kernel
theorem dX11_leaver_59 : decode cX11_leaver 59 = .ok (.bipush (-2), 2) := by decide +kernel
theorem dX11_leaver_61 : decode cX11_leaver 61 = .ok (.if_icmp .ne 6, 3) := by decide +kernel
theorem dX11_leaver_64 : decode cX11_leaver 64 = .ok (.iinc 4 1, 3) := by decide +kernel
theorem dX11_leaver_67 : decode cX11_leaver 67 = .ok (.iinc 5 1, 3) := by decide +kernel
theorem dX11_leaver_70 : decode cX11_leaver 70 = .ok (.goto (-48), 3) := by decide +kernel
theorem dX11_leaver_73 : decode cX11_leaver 73 = .ok (.iload_n 2, 1) := by decide +kernel
theorem dX11_leaver_74 : decode cX11_leaver 74 = .ok (.tableswitch 74 0 4 #[34, 40, 42, 45, 60], 34) := by decide +kernel
theorem dX11_leaver_108 : decode cX11_leaver 108 = .ok (.aload_n 0, 1) := by decide +kernel
theorem dX11_leaver_109 : decode cX11_leaver 109 = .ok (.iload_n 1, 1) := by decide +kernel
theorem dX11_leaver_110 : decode cX11_leaver 110 = .ok (.invokevirtual 355, 3) := by decide +kernel
theorem dX11_leaver_113 : decode cX11_leaver 113 = .ok (.ireturn, 1) := by decide +kernel
theorem dX11_leaver_114 : decode cX11_leaver 114 = .ok (.iload_n 3, 1) := by decide +kernel
theorem dX11_leaver_115 : decode cX11_leaver 115 = .ok (.ireturn, 1) := by decide +kernel
theorem dX11_leaver_116 : decode cX11_leaver 116 = .ok (.iload 4, 2) := by decide +kernel
theorem dX11_leaver_118 : decode cX11_leaver 118 = .ok (.ireturn, 1) := by decide +kernel
theorem dX11_leaver_119 : decode cX11_leaver 119 = .ok (.aload_n 0, 1) := by decide +kernel
theorem dX11_leaver_120 : decode cX11_leaver 120 = .ok (.getfield 67, 3) := by decide +kernel
theorem dX11_leaver_123 : decode cX11_leaver 123 = .ok (.bipush 8, 2) := by decide +kernel
theorem dX11_leaver_125 : decode cX11_leaver 125 = .ok (.aload_n 0, 1) := by decide +kernel
theorem dX11_leaver_126 : decode cX11_leaver 126 = .ok (.getfield 269, 3) := by decide +kernel
theorem dX11_leaver_129 : decode cX11_leaver 129 = .ok (.imul, 1) := by decide +kernel
theorem dX11_leaver_130 : decode cX11_leaver 130 = .ok (.iload_n 1, 1) := by decide +kernel
theorem dX11_leaver_131 : decode cX11_leaver 131 = .ok (.iadd, 1) := by decide +kernel
theorem dX11_leaver_132 : decode cX11_leaver 132 = .ok (.iaload, 1) := by decide +kernel
theorem dX11_leaver_133 : decode cX11_leaver 133 = .ok (.ireturn, 1) := by decide +kernel
theorem dX11_leaver_134 : decode cX11_leaver 134 = .ok (.aload_n 0, 1) := by decide +kernel
theorem dX11_leaver_135 : decode cX11_leaver 135 = .ok (.iload_n 1, 1) := by decide +kernel
theorem dX11_leaver_136 : decode cX11_leaver 136 = .ok (.invokevirtual 385, 3) := by decide +kernel
theorem dX11_leaver_139 : decode cX11_leaver 139 = .ok (.ifCond .eq 7, 3) := by decide +kernel
theorem dX11_leaver_142 : decode cX11_leaver 142 = .ok (.iconst 1, 1) := by decide +kernel
theorem dX11_leaver_143 : decode cX11_leaver 143 = .ok (.goto 4, 3) := by decide +kernel
theorem dX11_leaver_146 : decode cX11_leaver 146 = .ok (.iconst 0, 1) := by decide +kernel
theorem dX11_leaver_147 : decode cX11_leaver 147 = .ok (.ireturn, 1) := by decide +kernel
theorem dX11_leaver_148 : decode cX11_leaver 148 = .ok (.iconst (-1), 1) := by decide +kernel
theorem dX11_leaver_149 : decode cX11_leaver 149 = .ok (.ireturn, 1) := by decide +kernel
theorem dX11_keeps_0 : decode cX11_keeps 0 = .ok (.aload_n 0, 1) := by decide +kernel
theorem dX11_keeps_1 : decode cX11_keeps 1 = .ok (.getfield 287, 3) := by decide +kernel
theorem dX11_keeps_4 : decode cX11_keeps 4 = .ok (.bipush 25, 2) := by decide +kernel
theorem dX11_keeps_6 : decode cX11_keeps 6 = .ok (.if_icmp .ne 44, 3) := by decide +kernel
theorem dX11_keeps_9 : decode cX11_keeps 9 = .ok (.iconst 0, 1) := by decide +kernel
theorem dX11_keeps_10 : decode cX11_keeps 10 = .ok (.istore_n 1, 1) := by decide +kernel
theorem dX11_keeps_11 : decode cX11_keeps 11 = .ok (.iload_n 1, 1) := by decide +kernel
theorem dX11_keeps_12 : decode cX11_keeps 12 = .ok (.sipush 6000, 3) := by decide +kernel
theorem dX11_keeps_15 : decode cX11_keeps 15 = .ok (.if_icmp .ge 25, 3) := by decide +kernel
theorem dX11_keeps_18 : decode cX11_keeps 18 = .ok (.aload_n 0, 1) := by decide +kernel
theorem dX11_keeps_19 : decode cX11_keeps 19 = .ok (.getfield 131, 3) := by decide +kernel
theorem dX11_keeps_22 : decode cX11_keeps 22 = .ok (.iload_n 1, 1) := by decide +kernel
theorem dX11_keeps_23 : decode cX11_keeps 23 = .ok (.aload_n 0, 1) := by decide +kernel
theorem dX11_keeps_24 : decode cX11_keeps 24 = .ok (.getfield 131, 3) := by decide +kernel
theorem dX11_keeps_27 : decode cX11_keeps 27 = .ok (.iload_n 1, 1) := by decide +kernel
theorem dX11_keeps_28 : decode cX11_keeps 28 = .ok (.sipush 250, 3) := by decide +kernel
theorem dX11_keeps_31 : decode cX11_keeps 31 = .ok (.iadd, 1) := by decide +kernel
theorem dX11_keeps_32 : decode cX11_keeps 32 = .ok (.iaload, 1) := by decide +kernel
theorem dX11_keeps_33 : decode cX11_keeps 33 = .ok (.iastore, 1) := by decide +kernel
theorem dX11_keeps_34 : decode cX11_keeps 34 = .ok (.iinc 1 1, 3) := by decide +kernel
theorem dX11_keeps_37 : decode cX11_keeps 37 = .ok (.goto (-26), 3) := by decide +kernel
theorem dX11_keeps_40 : decode cX11_keeps 40 = .ok (.aload_n 0, 1) := by decide +kernel
theorem dX11_keeps_41 : decode cX11_keeps 41 = .ok (.dup, 1) := by decide +kernel
theorem dX11_keeps_42 : decode cX11_keeps 42 = .ok (.getfield 287, 3) := by decide +kernel
theorem dX11_keeps_45 : decode cX11_keeps 45 = .ok (.iconst 1, 1) := by decide +kernel
theorem dX11_keeps_46 : decode cX11_keeps 46 = .ok (.isub, 1) := by decide +kernel
theorem dX11_keeps_47 : decode cX11_keeps 47 = .ok (.putfield 287, 3) := by decide +kernel
theorem dX11_keeps_50 : decode cX11_keeps 50 = .ok (.iconst 0, 1) := by decide +kernel
theorem dX11_keeps_51 : decode cX11_keeps 51 = .ok (.istore_n 1, 1) := by decide +kernel
theorem dX11_keeps_52 : decode cX11_keeps 52 = .ok (.iload_n 1, 1) := by decide +kernel
theorem dX11_keeps_53 : decode cX11_keeps 53 = .ok (.sipush 250, 3) := by decide +kernel
theorem dX11_keeps_56 : decode cX11_keeps 56 = .ok (.if_icmp .ge 30, 3) := by decide +kernel
theorem dX11_keeps_59 : decode cX11_keeps 59 = .ok (.aload_n 0, 1) := by decide +kernel
theorem dX11_keeps_60 : decode cX11_keeps 60 = .ok (.getfield 131, 3) := by decide +kernel
theorem dX11_keeps_63 : decode cX11_keeps 63 = .ok (.sipush 250, 3) := by decide +kernel
theorem dX11_keeps_66 : decode cX11_keeps 66 = .ok (.aload_n 0, 1) := by decide +kernel
theorem dX11_keeps_67 : decode cX11_keeps 67 = .ok (.getfield 287, 3) := by decide +kernel
theorem dX11_keeps_70 : decode cX11_keeps 70 = .ok (.imul, 1) := by decide +kernel
theorem dX11_keeps_71 : decode cX11_keeps 71 = .ok (.iload_n 1, 1) := by decide +kernel
theorem dX11_keeps_72 : decode cX11_keeps 72 = .ok (.iadd, 1) := by decide +kernel
theorem dX11_keeps_73 : decode cX11_keeps 73 = .ok (.aload_n 0, 1) := by decide +kernel
theorem dX11_keeps_74 : decode cX11_keeps 74 = .ok (.getfield 122, 3) := by decide +kernel
theorem dX11_keeps_77 : decode cX11_keeps 77 = .ok (.iload_n 1, 1) := by decide +kernel
theorem dX11_keeps_78 : decode cX11_keeps 78 = .ok (.iaload, 1) := by decide +kernel
theorem dX11_keeps_79 : decode cX11_keeps 79 = .ok (.iastore, 1) := by decide +kernel
theorem dX11_keeps_80 : decode cX11_keeps 80 = .ok (.iinc 1 1, 3) := by decide +kernel
theorem dX11_keeps_83 : decode cX11_keeps 83 = .ok (.goto (-31), 3) := by decide +kernel
theorem dX11_keeps_86 : decode cX11_keeps 86 = .ok (.aload_n 0, 1) := by decide +kernel
theorem dX11_keeps_87 : decode cX11_keeps 87 = .ok (.dup, 1) := by decide +kernel
theorem dX11_keeps_88 : decode cX11_keeps 88 = .ok (.getfield 287, 3) := by decide +kernel
theorem dX11_keeps_91 : decode cX11_keeps 91 = .ok (.iconst 1, 1) := by decide +kernel
theorem dX11_keeps_92 : decode cX11_keeps 92 = .ok (.iadd, 1) := by decide +kernel
theorem dX11_keeps_93 : decode cX11_keeps 93 = .ok (.putfield 287, 3) := by decide +kernel
theorem dX11_keeps_96 : decode cX11_keeps 96 = .ok (.iconst 0, 1) := by decide +kernel
theorem dX11_keeps_97 : decode cX11_keeps 97 = .ok (.istore_n 1, 1) := by decide +kernel
theorem dX11_keeps_98 : decode cX11_keeps 98 = .ok (.iload_n 1, 1) := by decide +kernel
theorem dX11_keeps_99 : decode cX11_keeps 99 = .ok (.sipush 250, 3) := by decide +kernel
theorem dX11_keeps_102 : decode cX11_keeps 102 = .ok (.if_icmp .ge 21, 3) := by decide +kernel
theorem dX11_keeps_105 : decode cX11_keeps 105 = .ok (.aload_n 0, 1) := by decide +kernel
theorem dX11_keeps_106 : decode cX11_keeps 106 = .ok (.getfield 122, 3) := by decide +kernel
theorem dX11_keeps_109 : decode cX11_keeps 109 = .ok (.iload_n 1, 1) := by decide +kernel
theorem dX11_keeps_110 : decode cX11_keeps 110 = .ok (.aload_n 0, 1) := by decide +kernel
theorem dX11_keeps_111 : decode cX11_keeps 111 = .ok (.getfield 125, 3) := by decide +kernel
theorem dX11_keeps_114 : decode cX11_keeps 114 = .ok (.iload_n 1, 1) := by decide +kernel
theorem dX11_keeps_115 : decode cX11_keeps 115 = .ok (.iaload, 1) := by decide +kernel
theorem dX11_keeps_116 : decode cX11_keeps 116 = .ok (.iastore, 1) := by decide +kernel
theorem dX11_keeps_117 : decode cX11_keeps 117 = .ok (.iinc 1 1, 3) := by decide +kernel
theorem dX11_keeps_120 : decode cX11_keeps 120 = .ok (.goto (-22), 3) := by decide +kernel
theorem dX11_keeps_123 : decode cX11_keeps 123 = .ok (.return_, 1) := by decide +kernel
theorem dX11_canThrow_0 : decode cX11_canThrow 0 = .ok (.aload_n 0, 1) := by decide +kernel
theorem dX11_canThrow_1 : decode cX11_canThrow 1 = .ok (.iload_n 1, 1) := by decide +kernel
theorem dX11_canThrow_2 : decode cX11_canThrow 2 = .ok (.invokevirtual 382, 3) := by decide +kernel
theorem dX11_canThrow_5 : decode cX11_canThrow 5 = .ok (.ifCond .ne 5, 3) := by decide +kernel
theorem dX11_canThrow_8 : decode cX11_canThrow 8 = .ok (.iconst 0, 1) := by decide +kernel
theorem dX11_canThrow_9 : decode cX11_canThrow 9 = .ok (.ireturn, 1) := by decide +kernel
theorem dX11_canThrow_10 : decode cX11_canThrow 10 = .ok (.aload_n 0, 1) := by decide +kernel
theorem dX11_canThrow_11 : decode cX11_canThrow 11 = .ok (.invokevirtual 373, 3) := by decide +kernel
theorem dX11_canThrow_14 : decode cX11_canThrow 14 = .ok (.aload_n 0, 1) := by decide +kernel
theorem dX11_canThrow_15 : decode cX11_canThrow 15 = .ok (.iload_n 1, 1) := by decide +kernel
theorem dX11_canThrow_16 : decode cX11_canThrow 16 = .ok (.invokevirtual 385, 3) := by decide +kernel
theorem dX11_canThrow_19 : decode cX11_canThrow 19 = .ok (.ireturn, 1) := by decide +kernel
theorem dX11_hurl_0 : decode cX11_hurl 0 = .ok (.aload_n 0, 1) := by decide +kernel
theorem dX11_hurl_1 : decode cX11_hurl 1 = .ok (.iload_n 2, 1) := by decide +kernel
theorem dX11_hurl_2 : decode cX11_hurl 2 = .ok (.iload_n 3, 1) := by decide +kernel
theorem dX11_hurl_3 : decode cX11_hurl 3 = .ok (.invokevirtual 369, 3) := by decide +kernel
theorem dX11_hurl_6 : decode cX11_hurl 6 = .ok (.ifCond .eq 11, 3) := by decide +kernel
theorem dX11_hurl_9 : decode cX11_hurl 9 = .ok (.aload_n 0, 1) := by decide +kernel
theorem dX11_hurl_10 : decode cX11_hurl 10 = .ok (.iload_n 1, 1) := by decide +kernel
theorem dX11_hurl_11 : decode cX11_hurl 11 = .ok (.invokevirtual 388, 3) := by decide +kernel
theorem dX11_hurl_14 : decode cX11_hurl 14 = .ok (.ifCond .ne 5, 3) := by decide +kernel
theorem dX11_hurl_17 : decode cX11_hurl 17 = .ok (.iconst (-1), 1) := by decide +kernel
theorem dX11_hurl_18 : decode cX11_hurl 18 = .ok (.ireturn, 1) := by decide +kernel
theorem dX11_hurl_19 : decode cX11_hurl 19 = .ok (.aload_n 0, 1) := by decide +kernel
theorem dX11_hurl_20 : decode cX11_hurl 20 = .ok (.iload_n 1, 1) := by decide +kernel
theorem dX11_hurl_21 : decode cX11_hurl 21 = .ok (.iload_n 2, 1) := by decide +kernel
theorem dX11_hurl_22 : decode cX11_hurl 22 = .ok (.iload_n 3, 1) := by decide +kernel
theorem dX11_hurl_23 : decode cX11_hurl 23 = .ok (.invokevirtual 391, 3) := by decide +kernel
theorem dX11_hurl_26 : decode cX11_hurl 26 = .ok (.istore 4, 2) := by decide +kernel
theorem dX11_hurl_28 : decode cX11_hurl 28 = .ok (.aload_n 0, 1) := by decide +kernel
theorem dX11_hurl_29 : decode cX11_hurl 29 = .ok (.invokevirtual 394, 3) := by decide +kernel
theorem dX11_hurl_32 : decode cX11_hurl 32 = .ok (.iload 4, 2) := by decide +kernel
theorem dX11_hurl_34 : decode cX11_hurl 34 = .ok (.ifCond .ge 8, 3) := by decide +kernel
theorem dX11_hurl_37 : decode cX11_hurl 37 = .ok (.bipush (-2), 2) := by decide +kernel
theorem dX11_hurl_39 : decode cX11_hurl 39 = .ok (.goto 21, 3) := by decide +kernel
theorem dX11_hurl_42 : decode cX11_hurl 42 = .ok (.sipush 1000, 3) := by decide +kernel
theorem dX11_hurl_45 : decode cX11_hurl 45 = .ok (.bipush 100, 2) := by decide +kernel
theorem dX11_hurl_47 : decode cX11_hurl 47 = .ok (.iload 4, 2) := by decide +kernel
theorem dX11_hurl_49 : decode cX11_hurl 49 = .ok (.bipush 12, 2) := by decide +kernel
theorem dX11_hurl_51 : decode cX11_hurl 51 = .ok (.idiv, 1) := by decide +kernel
theorem dX11_hurl_52 : decode cX11_hurl 52 = .ok (.imul, 1) := by decide +kernel
theorem dX11_hurl_53 : decode cX11_hurl 53 = .ok (.iadd, 1) := by decide +kernel
theorem dX11_hurl_54 : decode cX11_hurl 54 = .ok (.iload 4, 2) := by decide +kernel
theorem dX11_hurl_56 : decode cX11_hurl 56 = .ok (.bipush 12, 2) := by decide +kernel
theorem dX11_hurl_58 : decode cX11_hurl 58 = .ok (.irem, 1) := by decide +kernel
theorem dX11_hurl_59 : decode cX11_hurl 59 = .ok (.iadd, 1) := by decide +kernel
theorem dX11_hurl_60 : decode cX11_hurl 60 = .ok (.ireturn, 1) := by decide +kernel
theorem dX11_days_0 : decode cX11_days 0 = .ok (.iload_n 1, 1) := by decide +kernel
theorem dX11_days_1 : decode cX11_days 1 = .ok (.iconst 0, 1) := by decide +kernel
theorem dX11_days_2 : decode cX11_days 2 = .ok (.bipush 100, 2) := by decide +kernel
theorem dX11_days_4 : decode cX11_days 4 = .ok (.invokestatic 345, 3) := by decide +kernel
theorem dX11_days_7 : decode cX11_days 7 = .ok (.ifCond .ne 5, 3) := by decide +kernel
theorem dX11_days_10 : decode cX11_days 10 = .ok (.iconst (-1), 1) := by decide +kernel
theorem dX11_days_11 : decode cX11_days 11 = .ok (.ireturn, 1) := by decide +kernel
theorem dX11_days_12 : decode cX11_days 12 = .ok (.iload_n 1, 1) := by decide +kernel
theorem dX11_days_13 : decode cX11_days 13 = .ok (.ifCond .ne 12, 3) := by decide +kernel
theorem dX11_days_16 : decode cX11_days 16 = .ok (.aload_n 0, 1) := by decide +kernel
theorem dX11_days_17 : decode cX11_days 17 = .ok (.getfield 122, 3) := by decide +kernel
theorem dX11_days_20 : decode cX11_days 20 = .ok (.sipush 240, 3) := by decide +kernel
theorem dX11_days_23 : decode cX11_days 23 = .ok (.iaload, 1) := by decide +kernel
theorem dX11_days_24 : decode cX11_days 24 = .ok (.ireturn, 1) := by decide +kernel
theorem dX11_days_25 : decode cX11_days 25 = .ok (.aload_n 0, 1) := by decide +kernel
theorem dX11_days_26 : decode cX11_days 26 = .ok (.invokevirtual 373, 3) := by decide +kernel
theorem dX11_days_29 : decode cX11_days 29 = .ok (.iconst 0, 1) := by decide +kernel
theorem dX11_days_30 : decode cX11_days 30 = .ok (.istore_n 2, 1) := by decide +kernel
theorem dX11_days_31 : decode cX11_days 31 = .ok (.iload_n 2, 1) := by decide +kernel
theorem dX11_days_32 : decode cX11_days 32 = .ok (.iload_n 1, 1) := by decide +kernel
theorem dX11_days_33 : decode cX11_days 33 = .ok (.if_icmp .ge 13, 3) := by decide +kernel
theorem dX11_days_36 : decode cX11_days 36 = .ok (.aload_n 0, 1) := by decide +kernel
theorem dX11_days_37 : decode cX11_days 37 = .ok (.invokevirtual 397, 3) := by decide +kernel
theorem dX11_days_40 : decode cX11_days 40 = .ok (.iinc 2 1, 3) := by decide +kernel
theorem dX11_days_43 : decode cX11_days 43 = .ok (.goto (-12), 3) := by decide +kernel
theorem dX11_days_46 : decode cX11_days 46 = .ok (.aload_n 0, 1) := by decide +kernel
theorem dX11_days_47 : decode cX11_days 47 = .ok (.invokevirtual 394, 3) := by decide +kernel
theorem dX11_days_50 : decode cX11_days 50 = .ok (.aload_n 0, 1) := by decide +kernel
theorem dX11_days_51 : decode cX11_days 51 = .ok (.getfield 122, 3) := by decide +kernel
theorem dX11_days_54 : decode cX11_days 54 = .ok (.sipush 240, 3) := by decide +kernel
theorem dX11_days_57 : decode cX11_days 57 = .ok (.iaload, 1) := by decide +kernel
theorem dX11_days_58 : decode cX11_days 58 = .ok (.ireturn, 1) := by decide +kernel
theorem dX11_undo_0 : decode cX11_undo 0 = .ok (.aload_n 0, 1) := by decide +kernel
theorem dX11_undo_1 : decode cX11_undo 1 = .ok (.getfield 287, 3) := by decide +kernel
theorem dX11_undo_4 : decode cX11_undo 4 = .ok (.ifCond .ne 5, 3) := by decide +kernel
theorem dX11_undo_7 : decode cX11_undo 7 = .ok (.iconst 0, 1) := by decide +kernel
theorem dX11_undo_8 : decode cX11_undo 8 = .ok (.ireturn, 1) := by decide +kernel
theorem dX11_undo_9 : decode cX11_undo 9 = .ok (.aload_n 0, 1) := by decide +kernel
theorem dX11_undo_10 : decode cX11_undo 10 = .ok (.dup, 1) := by decide +kernel
theorem dX11_undo_11 : decode cX11_undo 11 = .ok (.getfield 287, 3) := by decide +kernel
theorem dX11_undo_14 : decode cX11_undo 14 = .ok (.iconst 1, 1) := by decide +kernel
theorem dX11_undo_15 : decode cX11_undo 15 = .ok (.isub, 1) := by decide +kernel
theorem dX11_undo_16 : decode cX11_undo 16 = .ok (.putfield 287, 3) := by decide +kernel
theorem dX11_undo_19 : decode cX11_undo 19 = .ok (.iconst 0, 1) := by decide +kernel
theorem dX11_undo_20 : decode cX11_undo 20 = .ok (.istore_n 1, 1) := by decide +kernel
theorem dX11_undo_21 : decode cX11_undo 21 = .ok (.iload_n 1, 1) := by decide +kernel
theorem dX11_undo_22 : decode cX11_undo 22 = .ok (.sipush 250, 3) := by decide +kernel
theorem dX11_undo_25 : decode cX11_undo 25 = .ok (.if_icmp .ge 30, 3) := by decide +kernel
theorem dX11_undo_28 : decode cX11_undo 28 = .ok (.aload_n 0, 1) := by decide +kernel
theorem dX11_undo_29 : decode cX11_undo 29 = .ok (.getfield 122, 3) := by decide +kernel
theorem dX11_undo_32 : decode cX11_undo 32 = .ok (.iload_n 1, 1) := by decide +kernel
theorem dX11_undo_33 : decode cX11_undo 33 = .ok (.aload_n 0, 1) := by decide +kernel
theorem dX11_undo_34 : decode cX11_undo 34 = .ok (.getfield 131, 3) := by decide +kernel
theorem dX11_undo_37 : decode cX11_undo 37 = .ok (.sipush 250, 3) := by decide +kernel
theorem dX11_undo_40 : decode cX11_undo 40 = .ok (.aload_n 0, 1) := by decide +kernel
theorem dX11_undo_41 : decode cX11_undo 41 = .ok (.getfield 287, 3) := by decide +kernel
theorem dX11_undo_44 : decode cX11_undo 44 = .ok (.imul, 1) := by decide +kernel
theorem dX11_undo_45 : decode cX11_undo 45 = .ok (.iload_n 1, 1) := by decide +kernel
theorem dX11_undo_46 : decode cX11_undo 46 = .ok (.iadd, 1) := by decide +kernel
theorem dX11_undo_47 : decode cX11_undo 47 = .ok (.iaload, 1) := by decide +kernel
theorem dX11_undo_48 : decode cX11_undo 48 = .ok (.iastore, 1) := by decide +kernel
theorem dX11_undo_49 : decode cX11_undo 49 = .ok (.iinc 1 1, 3) := by decide +kernel
theorem dX11_undo_52 : decode cX11_undo 52 = .ok (.goto (-31), 3) := by decide +kernel
theorem dX11_undo_55 : decode cX11_undo 55 = .ok (.iconst 1, 1) := by decide +kernel
theorem dX11_undo_56 : decode cX11_undo 56 = .ok (.ireturn, 1) := by decide +kernel
theorem dX11_leaps_0 : decode cX11_leaps 0 = .ok (.iload_n 1, 1) := by decide +kernel
theorem dX11_leaps_1 : decode cX11_leaps 1 = .ok (.iload_n 2, 1) := by decide +kernel
theorem dX11_leaps_2 : decode cX11_leaps 2 = .ok (.if_icmp .eq 12, 3) := by decide +kernel
theorem dX11_leaps_5 : decode cX11_leaps 5 = .ok (.aload_n 0, 1) := by decide +kernel
theorem dX11_leaps_6 : decode cX11_leaps 6 = .ok (.getfield 134, 3) := by decide +kernel
theorem dX11_leaps_9 : decode cX11_leaps 9 = .ok (.iload_n 2, 1) := by decide +kernel
theorem dX11_leaps_10 : decode cX11_leaps 10 = .ok (.baload, 1) := by decide +kernel
theorem dX11_leaps_11 : decode cX11_leaps 11 = .ok (.ifCond .ne 5, 3) := by decide +kernel
theorem dX11_leaps_14 : decode cX11_leaps 14 = .ok (.iconst 0, 1) := by decide +kernel
theorem dX11_leaps_15 : decode cX11_leaps 15 = .ok (.ireturn, 1) := by decide +kernel
theorem dX11_leaps_16 : decode cX11_leaps 16 = .ok (.iload_n 2, 1) := by decide +kernel
theorem dX11_leaps_17 : decode cX11_leaps 17 = .ok (.bipush 12, 2) := by decide +kernel
theorem dX11_leaps_19 : decode cX11_leaps 19 = .ok (.idiv, 1) := by decide +kernel
theorem dX11_leaps_20 : decode cX11_leaps 20 = .ok (.iload_n 1, 1) := by decide +kernel
theorem dX11_leaps_21 : decode cX11_leaps 21 = .ok (.bipush 96, 2) := by decide +kernel
theorem dX11_leaps_23 : decode cX11_leaps 23 = .ok (.if_icmp .ne 7, 3) := by decide +kernel
theorem dX11_leaps_26 : decode cX11_leaps 26 = .ok (.iconst (-1), 1) := by decide +kernel
theorem dX11_leaps_27 : decode cX11_leaps 27 = .ok (.goto 7, 3) := by decide +kernel
theorem dX11_leaps_30 : decode cX11_leaps 30 = .ok (.iload_n 1, 1) := by decide +kernel
theorem dX11_leaps_31 : decode cX11_leaps 31 = .ok (.bipush 12, 2) := by decide +kernel
theorem dX11_leaps_33 : decode cX11_leaps 33 = .ok (.idiv, 1) := by decide +kernel
theorem dX11_leaps_34 : decode cX11_leaps 34 = .ok (.isub, 1) := by decide +kernel
theorem dX11_leaps_35 : decode cX11_leaps 35 = .ok (.istore_n 3, 1) := by decide +kernel
theorem dX11_leaps_36 : decode cX11_leaps 36 = .ok (.iload_n 1, 1) := by decide +kernel
theorem dX11_leaps_37 : decode cX11_leaps 37 = .ok (.bipush 96, 2) := by decide +kernel
theorem dX11_leaps_39 : decode cX11_leaps 39 = .ok (.if_icmp .ne 7, 3) := by decide +kernel
theorem dX11_leaps_42 : decode cX11_leaps 42 = .ok (.iconst 0, 1) := by decide +kernel
theorem dX11_leaps_43 : decode cX11_leaps 43 = .ok (.goto 12, 3) := by decide +kernel
theorem dX11_leaps_46 : decode cX11_leaps 46 = .ok (.iload_n 2, 1) := by decide +kernel
theorem dX11_leaps_47 : decode cX11_leaps 47 = .ok (.bipush 12, 2) := by decide +kernel
theorem dX11_leaps_49 : decode cX11_leaps 49 = .ok (.irem, 1) := by decide +kernel
theorem dX11_leaps_50 : decode cX11_leaps 50 = .ok (.iload_n 1, 1) := by decide +kernel
theorem dX11_leaps_51 : decode cX11_leaps 51 = .ok (.bipush 12, 2) := by decide +kernel
theorem dX11_leaps_53 : decode cX11_leaps 53 = .ok (.irem, 1) := by decide +kernel
theorem dX11_leaps_54 : decode cX11_leaps 54 = .ok (.isub, 1) := by decide +kernel
theorem dX11_leaps_55 : decode cX11_leaps 55 = .ok (.istore 4, 2) := by decide +kernel
theorem dX11_leaps_57 : decode cX11_leaps 57 = .ok (.iload 4, 2) := by decide +kernel
theorem dX11_leaps_59 : decode cX11_leaps 59 = .ok (.ifCond .ge 9, 3) := by decide +kernel
theorem dX11_leaps_62 : decode cX11_leaps 62 = .ok (.iload 4, 2) := by decide +kernel
theorem dX11_leaps_64 : decode cX11_leaps 64 = .ok (.ineg, 1) := by decide +kernel
theorem dX11_leaps_65 : decode cX11_leaps 65 = .ok (.goto 5, 3) := by decide +kernel
theorem dX11_leaps_68 : decode cX11_leaps 68 = .ok (.iload 4, 2) := by decide +kernel
theorem dX11_leaps_70 : decode cX11_leaps 70 = .ok (.iload_n 3, 1) := by decide +kernel
theorem dX11_leaps_71 : decode cX11_leaps 71 = .ok (.ifCond .ge 8, 3) := by decide +kernel
theorem dX11_leaps_74 : decode cX11_leaps 74 = .ok (.iload_n 3, 1) := by decide +kernel
theorem dX11_leaps_75 : decode cX11_leaps 75 = .ok (.ineg, 1) := by decide +kernel
theorem dX11_leaps_76 : decode cX11_leaps 76 = .ok (.goto 4, 3) := by decide +kernel
theorem dX11_leaps_79 : decode cX11_leaps 79 = .ok (.iload_n 3, 1) := by decide +kernel
theorem dX11_leaps_80 : decode cX11_leaps 80 = .ok (.iadd, 1) := by decide +kernel
theorem dX11_leaps_81 : decode cX11_leaps 81 = .ok (.aload_n 0, 1) := by decide +kernel
theorem dX11_leaps_82 : decode cX11_leaps 82 = .ok (.getfield 58, 3) := by decide +kernel
theorem dX11_leaps_85 : decode cX11_leaps 85 = .ok (.aload_n 0, 1) := by decide +kernel
theorem dX11_leaps_86 : decode cX11_leaps 86 = .ok (.getfield 269, 3) := by decide +kernel
theorem dX11_leaps_89 : decode cX11_leaps 89 = .ok (.iaload, 1) := by decide +kernel
theorem dX11_leaps_90 : decode cX11_leaps 90 = .ok (.if_icmp .gt 7, 3) := by decide +kernel
theorem dX11_leaps_93 : decode cX11_leaps 93 = .ok (.iconst 1, 1) := by decide +kernel
theorem dX11_leaps_94 : decode cX11_leaps 94 = .ok (.goto 4, 3) := by decide +kernel
theorem dX11_leaps_97 : decode cX11_leaps 97 = .ok (.iconst 0, 1) := by decide +kernel
theorem dX11_leaps_98 : decode cX11_leaps 98 = .ok (.ireturn, 1) := by decide +kernel
theorem dX11_ends_0 : decode cX11_ends 0 = .ok (.iload_n 1, 1) := by decide +kernel
theorem dX11_ends_1 : decode cX11_ends 1 = .ok (.bipush 96, 2) := by decide +kernel
theorem dX11_ends_3 : decode cX11_ends 3 = .ok (.if_icmp .ne 7, 3) := by decide +kernel
theorem dX11_ends_6 : decode cX11_ends 6 = .ok (.iconst (-1), 1) := by decide +kernel
theorem dX11_ends_7 : decode cX11_ends 7 = .ok (.goto 7, 3) := by decide +kernel
theorem dX11_ends_10 : decode cX11_ends 10 = .ok (.iload_n 1, 1) := by decide +kernel
theorem dX11_ends_11 : decode cX11_ends 11 = .ok (.bipush 12, 2) := by decide +kernel
theorem dX11_ends_13 : decode cX11_ends 13 = .ok (.idiv, 1) := by decide +kernel
theorem dX11_ends_14 : decode cX11_ends 14 = .ok (.istore_n 2, 1) := by decide +kernel
theorem dX11_ends_15 : decode cX11_ends 15 = .ok (.aload_n 0, 1) := by decide +kernel
theorem dX11_ends_16 : decode cX11_ends 16 = .ok (.getfield 46, 3) := by decide +kernel
theorem dX11_ends_19 : decode cX11_ends 19 = .ok (.aload_n 0, 1) := by decide +kernel
theorem dX11_ends_20 : decode cX11_ends 20 = .ok (.getfield 269, 3) := by decide +kernel
theorem dX11_ends_23 : decode cX11_ends 23 = .ok (.iaload, 1) := by decide +kernel
theorem dX11_ends_24 : decode cX11_ends 24 = .ok (.iload_n 2, 1) := by decide +kernel
theorem dX11_ends_25 : decode cX11_ends 25 = .ok (.isub, 1) := by decide +kernel
theorem dX11_ends_26 : decode cX11_ends 26 = .ok (.aload_n 0, 1) := by decide +kernel
theorem dX11_ends_27 : decode cX11_ends 27 = .ok (.getfield 58, 3) := by decide +kernel
theorem dX11_ends_30 : decode cX11_ends 30 = .ok (.aload_n 0, 1) := by decide +kernel
theorem dX11_ends_31 : decode cX11_ends 31 = .ok (.getfield 269, 3) := by decide +kernel
theorem dX11_ends_34 : decode cX11_ends 34 = .ok (.iaload, 1) := by decide +kernel
theorem dX11_ends_35 : decode cX11_ends 35 = .ok (.if_icmp .gt 7, 3) := by decide +kernel
theorem dX11_ends_38 : decode cX11_ends 38 = .ok (.iconst 1, 1) := by decide +kernel
theorem dX11_ends_39 : decode cX11_ends 39 = .ok (.goto 4, 3) := by decide +kernel
theorem dX11_ends_42 : decode cX11_ends 42 = .ok (.iconst 0, 1) := by decide +kernel
theorem dX11_ends_43 : decode cX11_ends 43 = .ok (.ireturn, 1) := by decide +kernel
theorem dX11_fillsWays_0 : decode cX11_fillsWays 0 = .ok (.iconst 0, 1) := by decide +kernel
theorem dX11_fillsWays_1 : decode cX11_fillsWays 1 = .ok (.istore_n 2, 1) := by decide +kernel
theorem dX11_fillsWays_2 : decode cX11_fillsWays 2 = .ok (.iload_n 2, 1) := by decide +kernel
theorem dX11_fillsWays_3 : decode cX11_fillsWays 3 = .ok (.bipush 97, 2) := by decide +kernel
theorem dX11_fillsWays_5 : decode cX11_fillsWays 5 = .ok (.if_icmp .ge 18, 3) := by decide +kernel
theorem dX11_fillsWays_8 : decode cX11_fillsWays 8 = .ok (.aload_n 0, 1) := by decide +kernel
theorem dX11_fillsWays_9 : decode cX11_fillsWays 9 = .ok (.getfield 140, 3) := by decide +kernel
theorem dX11_fillsWays_12 : decode cX11_fillsWays 12 = .ok (.iload_n 2, 1) := by decide +kernel
theorem dX11_fillsWays_13 : decode cX11_fillsWays 13 = .ok (.ldc_w 400, 3) := by decide +kernel
theorem dX11_fillsWays_16 : decode cX11_fillsWays 16 = .ok (.iastore, 1) := by decide +kernel
theorem dX11_fillsWays_17 : decode cX11_fillsWays 17 = .ok (.iinc 2 1, 3) := by decide +kernel
theorem dX11_fillsWays_20 : decode cX11_fillsWays 20 = .ok (.goto (-18), 3) := by decide +kernel
theorem dX11_fillsWays_23 : decode cX11_fillsWays 23 = .ok (.iconst 1, 1) := by decide +kernel
theorem dX11_fillsWays_24 : decode cX11_fillsWays 24 = .ok (.istore_n 2, 1) := by decide +kernel
theorem dX11_fillsWays_25 : decode cX11_fillsWays 25 = .ok (.iload_n 2, 1) := by decide +kernel
theorem dX11_fillsWays_26 : decode cX11_fillsWays 26 = .ok (.ifCond .eq 160, 3) := by decide +kernel
theorem dX11_fillsWays_29 : decode cX11_fillsWays 29 = .ok (.iconst 0, 1) := by decide +kernel
theorem dX11_fillsWays_30 : decode cX11_fillsWays 30 = .ok (.istore_n 2, 1) := by decide +kernel
theorem dX11_fillsWays_31 : decode cX11_fillsWays 31 = .ok (.bipush 96, 2) := by decide +kernel
theorem dX11_fillsWays_33 : decode cX11_fillsWays 33 = .ok (.istore_n 3, 1) := by decide +kernel
theorem dX11_fillsWays_34 : decode cX11_fillsWays 34 = .ok (.iload_n 3, 1) := by decide +kernel
theorem dX11_fillsWays_35 : decode cX11_fillsWays 35 = .ok (.ifCond .lt 148, 3) := by decide +kernel
theorem dX11_fillsWays_38 : decode cX11_fillsWays 38 = .ok (.iload_n 3, 1) := by decide +kernel
theorem dX11_fillsWays_39 : decode cX11_fillsWays 39 = .ok (.bipush 96, 2) := by decide +kernel
theorem dX11_fillsWays_41 : decode cX11_fillsWays 41 = .ok (.if_icmp .ge 15, 3) := by decide +kernel
theorem dX11_fillsWays_44 : decode cX11_fillsWays 44 = .ok (.aload_n 0, 1) := by decide +kernel
theorem dX11_fillsWays_45 : decode cX11_fillsWays 45 = .ok (.getfield 134, 3) := by decide +kernel
theorem dX11_fillsWays_48 : decode cX11_fillsWays 48 = .ok (.iload_n 3, 1) := by decide +kernel
theorem dX11_fillsWays_49 : decode cX11_fillsWays 49 = .ok (.baload, 1) := by decide +kernel
theorem dX11_fillsWays_50 : decode cX11_fillsWays 50 = .ok (.ifCond .ne 6, 3) := by decide +kernel
theorem dX11_fillsWays_53 : decode cX11_fillsWays 53 = .ok (.goto 124, 3) := by decide +kernel
theorem dX11_fillsWays_56 : decode cX11_fillsWays 56 = .ok (.aload_n 0, 1) := by decide +kernel
theorem dX11_fillsWays_57 : decode cX11_fillsWays 57 = .ok (.iload_n 3, 1) := by decide +kernel
theorem dX11_fillsWays_58 : decode cX11_fillsWays 58 = .ok (.invokevirtual 401, 3) := by decide +kernel
theorem dX11_fillsWays_61 : decode cX11_fillsWays 61 = .ok (.ifCond .eq 7, 3) := by decide +kernel
theorem dX11_fillsWays_64 : decode cX11_fillsWays 64 = .ok (.iload_n 1, 1) := by decide +kernel
theorem dX11_fillsWays_65 : decode cX11_fillsWays 65 = .ok (.goto 6, 3) := by decide +kernel
theorem dX11_fillsWays_68 : decode cX11_fillsWays 68 = .ok (.ldc_w 400, 3) := by decide +kernel
theorem dX11_fillsWays_71 : decode cX11_fillsWays 71 = .ok (.istore 4, 2) := by decide +kernel
theorem dX11_fillsWays_73 : decode cX11_fillsWays 73 = .ok (.iconst 0, 1) := by decide +kernel
theorem dX11_fillsWays_74 : decode cX11_fillsWays 74 = .ok (.istore 5, 2) := by decide +kernel
theorem dX11_fillsWays_76 : decode cX11_fillsWays 76 = .ok (.iload 5, 2) := by decide +kernel
theorem dX11_fillsWays_78 : decode cX11_fillsWays 78 = .ok (.bipush 96, 2) := by decide +kernel
theorem dX11_fillsWays_80 : decode cX11_fillsWays 80 = .ok (.if_icmp .ge 73, 3) := by decide +kernel
theorem dX11_fillsWays_83 : decode cX11_fillsWays 83 = .ok (.aload_n 0, 1) := by decide +kernel
theorem dX11_fillsWays_84 : decode cX11_fillsWays 84 = .ok (.getfield 140, 3) := by decide +kernel
theorem dX11_fillsWays_87 : decode cX11_fillsWays 87 = .ok (.iload 5, 2) := by decide +kernel
theorem dX11_fillsWays_89 : decode cX11_fillsWays 89 = .ok (.iaload, 1) := by decide +kernel
theorem dX11_fillsWays_90 : decode cX11_fillsWays 90 = .ok (.ldc_w 400, 3) := by decide +kernel
theorem dX11_fillsWays_93 : decode cX11_fillsWays 93 = .ok (.if_icmp .ge 54, 3) := by decide +kernel
theorem dX11_fillsWays_96 : decode cX11_fillsWays 96 = .ok (.aload_n 0, 1) := by decide +kernel
theorem dX11_fillsWays_97 : decode cX11_fillsWays 97 = .ok (.iload_n 3, 1) := by decide +kernel
theorem dX11_fillsWays_98 : decode cX11_fillsWays 98 = .ok (.iload 5, 2) := by decide +kernel
theorem dX11_fillsWays_100 : decode cX11_fillsWays 100 = .ok (.invokevirtual 404, 3) := by decide +kernel
theorem dX11_fillsWays_103 : decode cX11_fillsWays 103 = .ok (.ifCond .eq 44, 3) := by decide +kernel
theorem dX11_fillsWays_106 : decode cX11_fillsWays 106 = .ok (.aload_n 0, 1) := by decide +kernel
theorem dX11_fillsWays_107 : decode cX11_fillsWays 107 = .ok (.getfield 140, 3) := by decide +kernel
theorem dX11_fillsWays_110 : decode cX11_fillsWays 110 = .ok (.iload 5, 2) := by decide +kernel
theorem dX11_fillsWays_112 : decode cX11_fillsWays 112 = .ok (.iaload, 1) := by decide +kernel
theorem dX11_fillsWays_113 : decode cX11_fillsWays 113 = .ok (.iload_n 1, 1) := by decide +kernel
theorem dX11_fillsWays_114 : decode cX11_fillsWays 114 = .ok (.iadd, 1) := by decide +kernel
theorem dX11_fillsWays_115 : decode cX11_fillsWays 115 = .ok (.aload_n 0, 1) := by decide +kernel
theorem dX11_fillsWays_116 : decode cX11_fillsWays 116 = .ok (.getfield 137, 3) := by decide +kernel
theorem dX11_fillsWays_119 : decode cX11_fillsWays 119 = .ok (.iload 5, 2) := by decide +kernel
theorem dX11_fillsWays_121 : decode cX11_fillsWays 121 = .ok (.iaload, 1) := by decide +kernel
theorem dX11_fillsWays_122 : decode cX11_fillsWays 122 = .ok (.iadd, 1) := by decide +kernel
theorem dX11_fillsWays_123 : decode cX11_fillsWays 123 = .ok (.iload 4, 2) := by decide +kernel
theorem dX11_fillsWays_125 : decode cX11_fillsWays 125 = .ok (.if_icmp .ge 22, 3) := by decide +kernel
theorem dX11_fillsWays_128 : decode cX11_fillsWays 128 = .ok (.aload_n 0, 1) := by decide +kernel
theorem dX11_fillsWays_129 : decode cX11_fillsWays 129 = .ok (.getfield 140, 3) := by decide +kernel
theorem dX11_fillsWays_132 : decode cX11_fillsWays 132 = .ok (.iload 5, 2) := by decide +kernel
theorem dX11_fillsWays_134 : decode cX11_fillsWays 134 = .ok (.iaload, 1) := by decide +kernel
theorem dX11_fillsWays_135 : decode cX11_fillsWays 135 = .ok (.iload_n 1, 1) := by decide +kernel
theorem dX11_fillsWays_136 : decode cX11_fillsWays 136 = .ok (.iadd, 1) := by decide +kernel
theorem dX11_fillsWays_137 : decode cX11_fillsWays 137 = .ok (.aload_n 0, 1) := by decide +kernel
theorem dX11_fillsWays_138 : decode cX11_fillsWays 138 = .ok (.getfield 137, 3) := by decide +kernel
theorem dX11_fillsWays_141 : decode cX11_fillsWays 141 = .ok (.iload 5, 2) := by decide +kernel
theorem dX11_fillsWays_143 : decode cX11_fillsWays 143 = .ok (.iaload, 1) := by decide +kernel
theorem dX11_fillsWays_144 : decode cX11_fillsWays 144 = .ok (.iadd, 1) := by decide +kernel
theorem dX11_fillsWays_145 : decode cX11_fillsWays 145 = .ok (.istore 4, 2) := by decide +kernel
theorem dX11_fillsWays_147 : decode cX11_fillsWays 147 = .ok (.iinc 5 1, 3) := by decide +kernel
theorem dX11_fillsWays_150 : decode cX11_fillsWays 150 = .ok (.goto (-74), 3) := by decide +kernel
theorem dX11_fillsWays_153 : decode cX11_fillsWays 153 = .ok (.iload 4, 2) := by decide +kernel
theorem dX11_fillsWays_155 : decode cX11_fillsWays 155 = .ok (.aload_n 0, 1) := by decide +kernel
theorem dX11_fillsWays_156 : decode cX11_fillsWays 156 = .ok (.getfield 140, 3) := by decide +kernel
theorem dX11_fillsWays_159 : decode cX11_fillsWays 159 = .ok (.iload_n 3, 1) := by decide +kernel
theorem dX11_fillsWays_160 : decode cX11_fillsWays 160 = .ok (.iaload, 1) := by decide +kernel
theorem dX11_fillsWays_161 : decode cX11_fillsWays 161 = .ok (.if_icmp .lt 6, 3) := by decide +kernel
theorem dX11_fillsWays_164 : decode cX11_fillsWays 164 = .ok (.goto 13, 3) := by decide +kernel
theorem dX11_fillsWays_167 : decode cX11_fillsWays 167 = .ok (.aload_n 0, 1) := by decide +kernel
theorem dX11_fillsWays_168 : decode cX11_fillsWays 168 = .ok (.getfield 140, 3) := by decide +kernel
theorem dX11_fillsWays_171 : decode cX11_fillsWays 171 = .ok (.iload_n 3, 1) := by decide +kernel
theorem dX11_fillsWays_172 : decode cX11_fillsWays 172 = .ok (.iload 4, 2) := by decide +kernel
theorem dX11_fillsWays_174 : decode cX11_fillsWays 174 = .ok (.iastore, 1) := by decide +kernel
theorem dX11_fillsWays_175 : decode cX11_fillsWays 175 = .ok (.iconst 1, 1) := by decide +kernel
theorem dX11_fillsWays_176 : decode cX11_fillsWays 176 = .ok (.istore_n 2, 1) := by decide +kernel
theorem dX11_fillsWays_177 : decode cX11_fillsWays 177 = .ok (.iinc 3 (-1), 3) := by decide +kernel
theorem dX11_fillsWays_180 : decode cX11_fillsWays 180 = .ok (.goto (-146), 3) := by decide +kernel
theorem dX11_fillsWays_183 : decode cX11_fillsWays 183 = .ok (.goto (-158), 3) := by decide +kernel
theorem dX11_fillsWays_186 : decode cX11_fillsWays 186 = .ok (.return_, 1) := by decide +kernel
theorem dX11_fillsLine_0 : decode cX11_fillsLine 0 = .ok (.aload_n 0, 1) := by decide +kernel
theorem dX11_fillsLine_1 : decode cX11_fillsLine 1 = .ok (.iconst 0, 1) := by decide +kernel
theorem dX11_fillsLine_2 : decode cX11_fillsLine 2 = .ok (.putfield 407, 3) := by decide +kernel
theorem dX11_fillsLine_5 : decode cX11_fillsLine 5 = .ok (.bipush 96, 2) := by decide +kernel
theorem dX11_fillsLine_7 : decode cX11_fillsLine 7 = .ok (.istore_n 2, 1) := by decide +kernel
theorem dX11_fillsLine_8 : decode cX11_fillsLine 8 = .ok (.aload_n 0, 1) := by decide +kernel
theorem dX11_fillsLine_9 : decode cX11_fillsLine 9 = .ok (.iload_n 2, 1) := by decide +kernel
theorem dX11_fillsLine_10 : decode cX11_fillsLine 10 = .ok (.invokevirtual 401, 3) := by decide +kernel
theorem dX11_fillsLine_13 : decode cX11_fillsLine 13 = .ok (.ifCond .eq 13, 3) := by decide +kernel
theorem dX11_fillsLine_16 : decode cX11_fillsLine 16 = .ok (.aload_n 0, 1) := by decide +kernel
theorem dX11_fillsLine_17 : decode cX11_fillsLine 17 = .ok (.getfield 140, 3) := by decide +kernel
theorem dX11_fillsLine_20 : decode cX11_fillsLine 20 = .ok (.iload_n 2, 1) := by decide +kernel
theorem dX11_fillsLine_21 : decode cX11_fillsLine 21 = .ok (.iaload, 1) := by decide +kernel
theorem dX11_fillsLine_22 : decode cX11_fillsLine 22 = .ok (.iload_n 1, 1) := by decide +kernel
theorem dX11_fillsLine_23 : decode cX11_fillsLine 23 = .ok (.if_icmp .eq 81, 3) := by decide +kernel
theorem dX11_fillsLine_26 : decode cX11_fillsLine 26 = .ok (.iconst 0, 1) := by decide +kernel
theorem dX11_fillsLine_27 : decode cX11_fillsLine 27 = .ok (.istore_n 3, 1) := by decide +kernel
theorem dX11_fillsLine_28 : decode cX11_fillsLine 28 = .ok (.aload_n 0, 1) := by decide +kernel
theorem dX11_fillsLine_29 : decode cX11_fillsLine 29 = .ok (.getfield 140, 3) := by decide +kernel
theorem dX11_fillsLine_32 : decode cX11_fillsLine 32 = .ok (.iload_n 3, 1) := by decide +kernel
theorem dX11_fillsLine_33 : decode cX11_fillsLine 33 = .ok (.iaload, 1) := by decide +kernel
theorem dX11_fillsLine_34 : decode cX11_fillsLine 34 = .ok (.ldc_w 400, 3) := by decide +kernel
theorem dX11_fillsLine_37 : decode cX11_fillsLine 37 = .ok (.if_icmp .ge 36, 3) := by decide +kernel
theorem dX11_fillsLine_40 : decode cX11_fillsLine 40 = .ok (.aload_n 0, 1) := by decide +kernel
theorem dX11_fillsLine_41 : decode cX11_fillsLine 41 = .ok (.iload_n 2, 1) := by decide +kernel
theorem dX11_fillsLine_42 : decode cX11_fillsLine 42 = .ok (.iload_n 3, 1) := by decide +kernel
theorem dX11_fillsLine_43 : decode cX11_fillsLine 43 = .ok (.invokevirtual 404, 3) := by decide +kernel
theorem dX11_fillsLine_46 : decode cX11_fillsLine 46 = .ok (.ifCond .eq 27, 3) := by decide +kernel
theorem dX11_fillsLine_49 : decode cX11_fillsLine 49 = .ok (.aload_n 0, 1) := by decide +kernel
theorem dX11_fillsLine_50 : decode cX11_fillsLine 50 = .ok (.getfield 140, 3) := by decide +kernel
theorem dX11_fillsLine_53 : decode cX11_fillsLine 53 = .ok (.iload_n 3, 1) := by decide +kernel
theorem dX11_fillsLine_54 : decode cX11_fillsLine 54 = .ok (.iaload, 1) := by decide +kernel
theorem dX11_fillsLine_55 : decode cX11_fillsLine 55 = .ok (.iload_n 1, 1) := by decide +kernel
theorem dX11_fillsLine_56 : decode cX11_fillsLine 56 = .ok (.iadd, 1) := by decide +kernel
theorem dX11_fillsLine_57 : decode cX11_fillsLine 57 = .ok (.aload_n 0, 1) := by decide +kernel
theorem dX11_fillsLine_58 : decode cX11_fillsLine 58 = .ok (.getfield 137, 3) := by decide +kernel
theorem dX11_fillsLine_61 : decode cX11_fillsLine 61 = .ok (.iload_n 3, 1) := by decide +kernel
theorem dX11_fillsLine_62 : decode cX11_fillsLine 62 = .ok (.iaload, 1) := by decide +kernel
theorem dX11_fillsLine_63 : decode cX11_fillsLine 63 = .ok (.iadd, 1) := by decide +kernel
theorem dX11_fillsLine_64 : decode cX11_fillsLine 64 = .ok (.aload_n 0, 1) := by decide +kernel
theorem dX11_fillsLine_65 : decode cX11_fillsLine 65 = .ok (.getfield 140, 3) := by decide +kernel
theorem dX11_fillsLine_68 : decode cX11_fillsLine 68 = .ok (.iload_n 2, 1) := by decide +kernel
theorem dX11_fillsLine_69 : decode cX11_fillsLine 69 = .ok (.iaload, 1) := by decide +kernel
theorem dX11_fillsLine_70 : decode cX11_fillsLine 70 = .ok (.if_icmp .eq 9, 3) := by decide +kernel
theorem dX11_fillsLine_73 : decode cX11_fillsLine 73 = .ok (.iinc 3 1, 3) := by decide +kernel
theorem dX11_fillsLine_76 : decode cX11_fillsLine 76 = .ok (.goto (-48), 3) := by decide +kernel
theorem dX11_fillsLine_79 : decode cX11_fillsLine 79 = .ok (.aload_n 0, 1) := by decide +kernel
theorem dX11_fillsLine_80 : decode cX11_fillsLine 80 = .ok (.getfield 143, 3) := by decide +kernel
theorem dX11_fillsLine_83 : decode cX11_fillsLine 83 = .ok (.aload_n 0, 1) := by decide +kernel
theorem dX11_fillsLine_84 : decode cX11_fillsLine 84 = .ok (.getfield 407, 3) := by decide +kernel
theorem dX11_fillsLine_87 : decode cX11_fillsLine 87 = .ok (.iload_n 3, 1) := by decide +kernel
theorem dX11_fillsLine_88 : decode cX11_fillsLine 88 = .ok (.iastore, 1) := by decide +kernel
theorem dX11_fillsLine_89 : decode cX11_fillsLine 89 = .ok (.aload_n 0, 1) := by decide +kernel
theorem dX11_fillsLine_90 : decode cX11_fillsLine 90 = .ok (.dup, 1) := by decide +kernel
theorem dX11_fillsLine_91 : decode cX11_fillsLine 91 = .ok (.getfield 407, 3) := by decide +kernel
theorem dX11_fillsLine_94 : decode cX11_fillsLine 94 = .ok (.iconst 1, 1) := by decide +kernel
theorem dX11_fillsLine_95 : decode cX11_fillsLine 95 = .ok (.iadd, 1) := by decide +kernel
theorem dX11_fillsLine_96 : decode cX11_fillsLine 96 = .ok (.putfield 407, 3) := by decide +kernel
theorem dX11_fillsLine_99 : decode cX11_fillsLine 99 = .ok (.iload_n 3, 1) := by decide +kernel
theorem dX11_fillsLine_100 : decode cX11_fillsLine 100 = .ok (.istore_n 2, 1) := by decide +kernel
theorem dX11_fillsLine_101 : decode cX11_fillsLine 101 = .ok (.goto (-93), 3) := by decide +kernel
theorem dX11_fillsLine_104 : decode cX11_fillsLine 104 = .ok (.return_, 1) := by decide +kernel
theorem dX11_findsOver_0 : decode cX11_findsOver 0 = .ok (.aload_n 0, 1) := by decide +kernel
theorem dX11_findsOver_1 : decode cX11_findsOver 1 = .ok (.invokevirtual 373, 3) := by decide +kernel
theorem dX11_findsOver_4 : decode cX11_findsOver 4 = .ok (.iconst 0, 1) := by decide +kernel
theorem dX11_findsOver_5 : decode cX11_findsOver 5 = .ok (.istore_n 2, 1) := by decide +kernel
theorem dX11_findsOver_6 : decode cX11_findsOver 6 = .ok (.iload_n 2, 1) := by decide +kernel
theorem dX11_findsOver_7 : decode cX11_findsOver 7 = .ok (.bipush 96, 2) := by decide +kernel
theorem dX11_findsOver_9 : decode cX11_findsOver 9 = .ok (.if_icmp .ge 83, 3) := by decide +kernel
theorem dX11_findsOver_12 : decode cX11_findsOver 12 = .ok (.aload_n 0, 1) := by decide +kernel
theorem dX11_findsOver_13 : decode cX11_findsOver 13 = .ok (.getfield 134, 3) := by decide +kernel
theorem dX11_findsOver_16 : decode cX11_findsOver 16 = .ok (.iload_n 2, 1) := by decide +kernel
theorem dX11_findsOver_17 : decode cX11_findsOver 17 = .ok (.aload_n 0, 1) := by decide +kernel
theorem dX11_findsOver_18 : decode cX11_findsOver 18 = .ok (.iload_n 2, 1) := by decide +kernel
theorem dX11_findsOver_19 : decode cX11_findsOver 19 = .ok (.bipush 12, 2) := by decide +kernel
theorem dX11_findsOver_21 : decode cX11_findsOver 21 = .ok (.irem, 1) := by decide +kernel
theorem dX11_findsOver_22 : decode cX11_findsOver 22 = .ok (.iload_n 2, 1) := by decide +kernel
theorem dX11_findsOver_23 : decode cX11_findsOver 23 = .ok (.bipush 12, 2) := by decide +kernel
theorem dX11_findsOver_25 : decode cX11_findsOver 25 = .ok (.idiv, 1) := by decide +kernel
theorem dX11_findsOver_26 : decode cX11_findsOver 26 = .ok (.invokevirtual 369, 3) := by decide +kernel
theorem dX11_findsOver_29 : decode cX11_findsOver 29 = .ok (.ifCond .eq 15, 3) := by decide +kernel
theorem dX11_findsOver_32 : decode cX11_findsOver 32 = .ok (.aload_n 0, 1) := by decide +kernel
theorem dX11_findsOver_33 : decode cX11_findsOver 33 = .ok (.iload_n 2, 1) := by decide +kernel
theorem dX11_findsOver_34 : decode cX11_findsOver 34 = .ok (.invokevirtual 376, 3) := by decide +kernel
theorem dX11_findsOver_37 : decode cX11_findsOver 37 = .ok (.ifCond .eq 7, 3) := by decide +kernel
theorem dX11_findsOver_40 : decode cX11_findsOver 40 = .ok (.iconst 1, 1) := by decide +kernel
theorem dX11_findsOver_41 : decode cX11_findsOver 41 = .ok (.goto 4, 3) := by decide +kernel
theorem dX11_findsOver_44 : decode cX11_findsOver 44 = .ok (.iconst 0, 1) := by decide +kernel
theorem dX11_findsOver_45 : decode cX11_findsOver 45 = .ok (.bastore, 1) := by decide +kernel
theorem dX11_findsOver_46 : decode cX11_findsOver 46 = .ok (.aload_n 0, 1) := by decide +kernel
theorem dX11_findsOver_47 : decode cX11_findsOver 47 = .ok (.getfield 137, 3) := by decide +kernel
theorem dX11_findsOver_50 : decode cX11_findsOver 50 = .ok (.iload_n 2, 1) := by decide +kernel
theorem dX11_findsOver_51 : decode cX11_findsOver 51 = .ok (.aload_n 0, 1) := by decide +kernel
theorem dX11_findsOver_52 : decode cX11_findsOver 52 = .ok (.getfield 134, 3) := by decide +kernel
theorem dX11_findsOver_55 : decode cX11_findsOver 55 = .ok (.iload_n 2, 1) := by decide +kernel
theorem dX11_findsOver_56 : decode cX11_findsOver 56 = .ok (.baload, 1) := by decide +kernel
theorem dX11_findsOver_57 : decode cX11_findsOver 57 = .ok (.ifCond .eq 27, 3) := by decide +kernel
theorem dX11_findsOver_60 : decode cX11_findsOver 60 = .ok (.aload_n 0, 1) := by decide +kernel
theorem dX11_findsOver_61 : decode cX11_findsOver 61 = .ok (.iconst 1, 1) := by decide +kernel
theorem dX11_findsOver_62 : decode cX11_findsOver 62 = .ok (.iload_n 2, 1) := by decide +kernel
theorem dX11_findsOver_63 : decode cX11_findsOver 63 = .ok (.iconst 0, 1) := by decide +kernel
theorem dX11_findsOver_64 : decode cX11_findsOver 64 = .ok (.bipush 100, 2) := by decide +kernel
theorem dX11_findsOver_66 : decode cX11_findsOver 66 = .ok (.invokevirtual 361, 3) := by decide +kernel
theorem dX11_findsOver_69 : decode cX11_findsOver 69 = .ok (.iload_n 1, 1) := by decide +kernel
theorem dX11_findsOver_70 : decode cX11_findsOver 70 = .ok (.ifCond .ne 7, 3) := by decide +kernel
theorem dX11_findsOver_73 : decode cX11_findsOver 73 = .ok (.iconst 1, 1) := by decide +kernel
theorem dX11_findsOver_74 : decode cX11_findsOver 74 = .ok (.goto 6, 3) := by decide +kernel
theorem dX11_findsOver_77 : decode cX11_findsOver 77 = .ok (.ldc_w 410, 3) := by decide +kernel
theorem dX11_findsOver_80 : decode cX11_findsOver 80 = .ok (.imul, 1) := by decide +kernel
theorem dX11_findsOver_81 : decode cX11_findsOver 81 = .ok (.goto 4, 3) := by decide +kernel
theorem dX11_findsOver_84 : decode cX11_findsOver 84 = .ok (.iconst 0, 1) := by decide +kernel
theorem dX11_findsOver_85 : decode cX11_findsOver 85 = .ok (.iastore, 1) := by decide +kernel
theorem dX11_findsOver_86 : decode cX11_findsOver 86 = .ok (.iinc 2 1, 3) := by decide +kernel
theorem dX11_findsOver_89 : decode cX11_findsOver 89 = .ok (.goto (-83), 3) := by decide +kernel
theorem dX11_findsOver_92 : decode cX11_findsOver 92 = .ok (.aload_n 0, 1) := by decide +kernel
theorem dX11_findsOver_93 : decode cX11_findsOver 93 = .ok (.iload_n 1, 1) := by decide +kernel
theorem dX11_findsOver_94 : decode cX11_findsOver 94 = .ok (.ifCond .ne 9, 3) := by decide +kernel
theorem dX11_findsOver_97 : decode cX11_findsOver 97 = .ok (.ldc_w 410, 3) := by decide +kernel
theorem dX11_findsOver_100 : decode cX11_findsOver 100 = .ok (.goto 4, 3) := by decide +kernel
theorem dX11_findsOver_103 : decode cX11_findsOver 103 = .ok (.iconst 1, 1) := by decide +kernel
theorem dX11_findsOver_104 : decode cX11_findsOver 104 = .ok (.invokevirtual 411, 3) := by decide +kernel
theorem dX11_findsOver_107 : decode cX11_findsOver 107 = .ok (.aload_n 0, 1) := by decide +kernel
theorem dX11_findsOver_108 : decode cX11_findsOver 108 = .ok (.getfield 140, 3) := by decide +kernel
theorem dX11_findsOver_111 : decode cX11_findsOver 111 = .ok (.bipush 96, 2) := by decide +kernel
theorem dX11_findsOver_113 : decode cX11_findsOver 113 = .ok (.iaload, 1) := by decide +kernel
theorem dX11_findsOver_114 : decode cX11_findsOver 114 = .ok (.ldc_w 400, 3) := by decide +kernel
theorem dX11_findsOver_117 : decode cX11_findsOver 117 = .ok (.if_icmp .lt 5, 3) := by decide +kernel
theorem dX11_findsOver_120 : decode cX11_findsOver 120 = .ok (.iconst 0, 1) := by decide +kernel
theorem dX11_findsOver_121 : decode cX11_findsOver 121 = .ok (.ireturn, 1) := by decide +kernel
theorem dX11_findsOver_122 : decode cX11_findsOver 122 = .ok (.aload_n 0, 1) := by decide +kernel
theorem dX11_findsOver_123 : decode cX11_findsOver 123 = .ok (.iload_n 1, 1) := by decide +kernel
theorem dX11_findsOver_124 : decode cX11_findsOver 124 = .ok (.ifCond .ne 9, 3) := by decide +kernel
theorem dX11_findsOver_127 : decode cX11_findsOver 127 = .ok (.ldc_w 410, 3) := by decide +kernel
theorem dX11_findsOver_130 : decode cX11_findsOver 130 = .ok (.goto 4, 3) := by decide +kernel
theorem dX11_findsOver_133 : decode cX11_findsOver 133 = .ok (.iconst 1, 1) := by decide +kernel
theorem dX11_findsOver_134 : decode cX11_findsOver 134 = .ok (.invokevirtual 414, 3) := by decide +kernel
theorem dX11_findsOver_137 : decode cX11_findsOver 137 = .ok (.iconst 1, 1) := by decide +kernel
theorem dX11_findsOver_138 : decode cX11_findsOver 138 = .ok (.ireturn, 1) := by decide +kernel
theorem dX11_over_0 : decode cX11_over 0 = .ok (.iload_n 1, 1) := by decide +kernel
theorem dX11_over_1 : decode cX11_over 1 = .ok (.iconst 0, 1) := by decide +kernel
theorem dX11_over_2 : decode cX11_over 2 = .ok (.iconst 1, 1) := by decide +kernel
theorem dX11_over_3 : decode cX11_over 3 = .ok (.invokestatic 345, 3) := by decide +kernel
theorem dX11_over_6 : decode cX11_over 6 = .ok (.ifCond .eq 12, 3) := by decide +kernel
theorem dX11_over_9 : decode cX11_over 9 = .ok (.iload_n 2, 1) := by decide +kernel
theorem dX11_over_10 : decode cX11_over 10 = .ok (.iconst 0, 1) := by decide +kernel
theorem dX11_over_11 : decode cX11_over 11 = .ok (.iconst 1, 1) := by decide +kernel
theorem dX11_over_12 : decode cX11_over 12 = .ok (.invokestatic 345, 3) := by decide +kernel
theorem dX11_over_15 : decode cX11_over 15 = .ok (.ifCond .ne 5, 3) := by decide +kernel
theorem dX11_over_18 : decode cX11_over 18 = .ok (.iconst (-1), 1) := by decide +kernel
theorem dX11_over_19 : decode cX11_over 19 = .ok (.ireturn, 1) := by decide +kernel
theorem dX11_over_20 : decode cX11_over 20 = .ok (.aload_n 0, 1) := by decide +kernel
theorem dX11_over_21 : decode cX11_over 21 = .ok (.iload_n 1, 1) := by decide +kernel
theorem dX11_over_22 : decode cX11_over 22 = .ok (.invokevirtual 417, 3) := by decide +kernel
theorem dX11_over_25 : decode cX11_over 25 = .ok (.ifCond .ne 6, 3) := by decide +kernel
theorem dX11_over_28 : decode cX11_over 28 = .ok (.bipush (-2), 2) := by decide +kernel
theorem dX11_over_30 : decode cX11_over 30 = .ok (.ireturn, 1) := by decide +kernel
theorem dX11_over_31 : decode cX11_over 31 = .ok (.iload_n 1, 1) := by decide +kernel
theorem dX11_over_32 : decode cX11_over 32 = .ok (.iload_n 2, 1) := by decide +kernel
theorem dX11_over_33 : decode cX11_over 33 = .ok (.if_icmp .ne 17, 3) := by decide +kernel
theorem dX11_over_36 : decode cX11_over 36 = .ok (.aload_n 0, 1) := by decide +kernel
theorem dX11_over_37 : decode cX11_over 37 = .ok (.getfield 140, 3) := by decide +kernel
theorem dX11_over_40 : decode cX11_over 40 = .ok (.bipush 96, 2) := by decide +kernel
theorem dX11_over_42 : decode cX11_over 42 = .ok (.iaload, 1) := by decide +kernel
theorem dX11_over_43 : decode cX11_over 43 = .ok (.ldc_w 410, 3) := by decide +kernel
theorem dX11_over_46 : decode cX11_over 46 = .ok (.idiv, 1) := by decide +kernel
theorem dX11_over_47 : decode cX11_over 47 = .ok (.goto 14, 3) := by decide +kernel
theorem dX11_over_50 : decode cX11_over 50 = .ok (.aload_n 0, 1) := by decide +kernel
theorem dX11_over_51 : decode cX11_over 51 = .ok (.getfield 140, 3) := by decide +kernel
theorem dX11_over_54 : decode cX11_over 54 = .ok (.bipush 96, 2) := by decide +kernel
theorem dX11_over_56 : decode cX11_over 56 = .ok (.iaload, 1) := by decide +kernel
theorem dX11_over_57 : decode cX11_over 57 = .ok (.ldc_w 410, 3) := by decide +kernel
theorem dX11_over_60 : decode cX11_over 60 = .ok (.irem, 1) := by decide +kernel
theorem dX11_over_61 : decode cX11_over 61 = .ok (.ireturn, 1) := by decide +kernel
theorem dX11_overAt_0 : decode cX11_overAt 0 = .ok (.iload_n 1, 1) := by decide +kernel
theorem dX11_overAt_1 : decode cX11_overAt 1 = .ok (.iconst 0, 1) := by decide +kernel
theorem dX11_overAt_2 : decode cX11_overAt 2 = .ok (.iconst 1, 1) := by decide +kernel
theorem dX11_overAt_3 : decode cX11_overAt 3 = .ok (.invokestatic 345, 3) := by decide +kernel
theorem dX11_overAt_6 : decode cX11_overAt 6 = .ok (.ifCond .eq 7, 3) := by decide +kernel
theorem dX11_overAt_9 : decode cX11_overAt 9 = .ok (.iload_n 2, 1) := by decide +kernel
theorem dX11_overAt_10 : decode cX11_overAt 10 = .ok (.ifCond .ge 5, 3) := by decide +kernel
theorem dX11_overAt_13 : decode cX11_overAt 13 = .ok (.iconst (-1), 1) := by decide +kernel
theorem dX11_overAt_14 : decode cX11_overAt 14 = .ok (.ireturn, 1) := by decide +kernel
theorem dX11_overAt_15 : decode cX11_overAt 15 = .ok (.aload_n 0, 1) := by decide +kernel
theorem dX11_overAt_16 : decode cX11_overAt 16 = .ok (.iload_n 1, 1) := by decide +kernel
theorem dX11_overAt_17 : decode cX11_overAt 17 = .ok (.invokevirtual 417, 3) := by decide +kernel
theorem dX11_overAt_20 : decode cX11_overAt 20 = .ok (.ifCond .ne 6, 3) := by decide +kernel
theorem dX11_overAt_23 : decode cX11_overAt 23 = .ok (.bipush (-2), 2) := by decide +kernel
theorem dX11_overAt_25 : decode cX11_overAt 25 = .ok (.ireturn, 1) := by decide +kernel
theorem dX11_overAt_26 : decode cX11_overAt 26 = .ok (.iload_n 2, 1) := by decide +kernel
theorem dX11_overAt_27 : decode cX11_overAt 27 = .ok (.aload_n 0, 1) := by decide +kernel
theorem dX11_overAt_28 : decode cX11_overAt 28 = .ok (.getfield 407, 3) := by decide +kernel
theorem dX11_overAt_31 : decode cX11_overAt 31 = .ok (.if_icmp .ge 28, 3) := by decide +kernel
theorem dX11_overAt_34 : decode cX11_overAt 34 = .ok (.bipush 100, 2) := by decide +kernel
theorem dX11_overAt_36 : decode cX11_overAt 36 = .ok (.aload_n 0, 1) := by decide +kernel
theorem dX11_overAt_37 : decode cX11_overAt 37 = .ok (.getfield 143, 3) := by decide +kernel
theorem dX11_overAt_40 : decode cX11_overAt 40 = .ok (.iload_n 2, 1) := by decide +kernel
theorem dX11_overAt_41 : decode cX11_overAt 41 = .ok (.iaload, 1) := by decide +kernel
theorem dX11_overAt_42 : decode cX11_overAt 42 = .ok (.bipush 12, 2) := by decide +kernel
theorem dX11_overAt_44 : decode cX11_overAt 44 = .ok (.idiv, 1) := by decide +kernel
theorem dX11_overAt_45 : decode cX11_overAt 45 = .ok (.imul, 1) := by decide +kernel
theorem dX11_overAt_46 : decode cX11_overAt 46 = .ok (.aload_n 0, 1) := by decide +kernel
theorem dX11_overAt_47 : decode cX11_overAt 47 = .ok (.getfield 143, 3) := by decide +kernel
theorem dX11_overAt_50 : decode cX11_overAt 50 = .ok (.iload_n 2, 1) := by decide +kernel
theorem dX11_overAt_51 : decode cX11_overAt 51 = .ok (.iaload, 1) := by decide +kernel
theorem dX11_overAt_52 : decode cX11_overAt 52 = .ok (.bipush 12, 2) := by decide +kernel
theorem dX11_overAt_54 : decode cX11_overAt 54 = .ok (.irem, 1) := by decide +kernel
theorem dX11_overAt_55 : decode cX11_overAt 55 = .ok (.iadd, 1) := by decide +kernel
theorem dX11_overAt_56 : decode cX11_overAt 56 = .ok (.goto 4, 3) := by decide +kernel
theorem dX11_overAt_59 : decode cX11_overAt 59 = .ok (.iconst (-1), 1) := by decide +kernel
theorem dX11_overAt_60 : decode cX11_overAt 60 = .ok (.ireturn, 1) := by decide +kernel
theorem dX11_findsLack_0 : decode cX11_findsLack 0 = .ok (.aload_n 0, 1) := by decide +kernel
theorem dX11_findsLack_1 : decode cX11_findsLack 1 = .ok (.invokevirtual 373, 3) := by decide +kernel
theorem dX11_findsLack_4 : decode cX11_findsLack 4 = .ok (.iconst 0, 1) := by decide +kernel
theorem dX11_findsLack_5 : decode cX11_findsLack 5 = .ok (.istore_n 1, 1) := by decide +kernel
theorem dX11_findsLack_6 : decode cX11_findsLack 6 = .ok (.iload_n 1, 1) := by decide +kernel
theorem dX11_findsLack_7 : decode cX11_findsLack 7 = .ok (.bipush 96, 2) := by decide +kernel
theorem dX11_findsLack_9 : decode cX11_findsLack 9 = .ok (.if_icmp .ge 70, 3) := by decide +kernel
theorem dX11_findsLack_12 : decode cX11_findsLack 12 = .ok (.aload_n 0, 1) := by decide +kernel
theorem dX11_findsLack_13 : decode cX11_findsLack 13 = .ok (.getfield 134, 3) := by decide +kernel
theorem dX11_findsLack_16 : decode cX11_findsLack 16 = .ok (.iload_n 1, 1) := by decide +kernel
theorem dX11_findsLack_17 : decode cX11_findsLack 17 = .ok (.aload_n 0, 1) := by decide +kernel
theorem dX11_findsLack_18 : decode cX11_findsLack 18 = .ok (.iload_n 1, 1) := by decide +kernel
theorem dX11_findsLack_19 : decode cX11_findsLack 19 = .ok (.bipush 12, 2) := by decide +kernel
theorem dX11_findsLack_21 : decode cX11_findsLack 21 = .ok (.irem, 1) := by decide +kernel
theorem dX11_findsLack_22 : decode cX11_findsLack 22 = .ok (.iload_n 1, 1) := by decide +kernel
theorem dX11_findsLack_23 : decode cX11_findsLack 23 = .ok (.bipush 12, 2) := by decide +kernel
theorem dX11_findsLack_25 : decode cX11_findsLack 25 = .ok (.idiv, 1) := by decide +kernel
theorem dX11_findsLack_26 : decode cX11_findsLack 26 = .ok (.invokevirtual 369, 3) := by decide +kernel
theorem dX11_findsLack_29 : decode cX11_findsLack 29 = .ok (.bastore, 1) := by decide +kernel
theorem dX11_findsLack_30 : decode cX11_findsLack 30 = .ok (.aload_n 0, 1) := by decide +kernel
theorem dX11_findsLack_31 : decode cX11_findsLack 31 = .ok (.getfield 137, 3) := by decide +kernel
theorem dX11_findsLack_34 : decode cX11_findsLack 34 = .ok (.iload_n 1, 1) := by decide +kernel
theorem dX11_findsLack_35 : decode cX11_findsLack 35 = .ok (.ldc_w 410, 3) := by decide +kernel
theorem dX11_findsLack_38 : decode cX11_findsLack 38 = .ok (.aload_n 0, 1) := by decide +kernel
theorem dX11_findsLack_39 : decode cX11_findsLack 39 = .ok (.getfield 134, 3) := by decide +kernel
theorem dX11_findsLack_42 : decode cX11_findsLack 42 = .ok (.iload_n 1, 1) := by decide +kernel
theorem dX11_findsLack_43 : decode cX11_findsLack 43 = .ok (.baload, 1) := by decide +kernel
theorem dX11_findsLack_44 : decode cX11_findsLack 44 = .ok (.ifCond .eq 26, 3) := by decide +kernel
theorem dX11_findsLack_47 : decode cX11_findsLack 47 = .ok (.aload_n 0, 1) := by decide +kernel
theorem dX11_findsLack_48 : decode cX11_findsLack 48 = .ok (.iload_n 1, 1) := by decide +kernel
theorem dX11_findsLack_49 : decode cX11_findsLack 49 = .ok (.invokevirtual 376, 3) := by decide +kernel
theorem dX11_findsLack_52 : decode cX11_findsLack 52 = .ok (.ifCond .ne 18, 3) := by decide +kernel
theorem dX11_findsLack_55 : decode cX11_findsLack 55 = .ok (.aload_n 0, 1) := by decide +kernel
theorem dX11_findsLack_56 : decode cX11_findsLack 56 = .ok (.iload_n 1, 1) := by decide +kernel
theorem dX11_findsLack_57 : decode cX11_findsLack 57 = .ok (.invokevirtual 349, 3) := by decide +kernel
theorem dX11_findsLack_60 : decode cX11_findsLack 60 = .ok (.aload_n 0, 1) := by decide +kernel
theorem dX11_findsLack_61 : decode cX11_findsLack 61 = .ok (.getfield 128, 3) := by decide +kernel
theorem dX11_findsLack_64 : decode cX11_findsLack 64 = .ok (.iload_n 1, 1) := by decide +kernel
theorem dX11_findsLack_65 : decode cX11_findsLack 65 = .ok (.iaload, 1) := by decide +kernel
theorem dX11_findsLack_66 : decode cX11_findsLack 66 = .ok (.isub, 1) := by decide +kernel
theorem dX11_findsLack_67 : decode cX11_findsLack 67 = .ok (.goto 4, 3) := by decide +kernel
theorem dX11_findsLack_70 : decode cX11_findsLack 70 = .ok (.iconst 0, 1) := by decide +kernel
theorem dX11_findsLack_71 : decode cX11_findsLack 71 = .ok (.imul, 1) := by decide +kernel
theorem dX11_findsLack_72 : decode cX11_findsLack 72 = .ok (.iastore, 1) := by decide +kernel
theorem dX11_findsLack_73 : decode cX11_findsLack 73 = .ok (.iinc 1 1, 3) := by decide +kernel
theorem dX11_findsLack_76 : decode cX11_findsLack 76 = .ok (.goto (-70), 3) := by decide +kernel
theorem dX11_findsLack_79 : decode cX11_findsLack 79 = .ok (.aload_n 0, 1) := by decide +kernel
theorem dX11_findsLack_80 : decode cX11_findsLack 80 = .ok (.iconst 1, 1) := by decide +kernel
theorem dX11_findsLack_81 : decode cX11_findsLack 81 = .ok (.invokevirtual 411, 3) := by decide +kernel
theorem dX11_findsLack_84 : decode cX11_findsLack 84 = .ok (.aload_n 0, 1) := by decide +kernel
theorem dX11_findsLack_85 : decode cX11_findsLack 85 = .ok (.iconst 1, 1) := by decide +kernel
theorem dX11_findsLack_86 : decode cX11_findsLack 86 = .ok (.invokevirtual 414, 3) := by decide +kernel
theorem dX11_findsLack_89 : decode cX11_findsLack 89 = .ok (.return_, 1) := by decide +kernel
theorem dX11_lack_0 : decode cX11_lack 0 = .ok (.iload_n 1, 1) := by decide +kernel
theorem dX11_lack_1 : decode cX11_lack 1 = .ok (.iconst 0, 1) := by decide +kernel
theorem dX11_lack_2 : decode cX11_lack 2 = .ok (.iconst 1, 1) := by decide +kernel
theorem dX11_lack_3 : decode cX11_lack 3 = .ok (.invokestatic 345, 3) := by decide +kernel
theorem dX11_lack_6 : decode cX11_lack 6 = .ok (.ifCond .ne 5, 3) := by decide +kernel
theorem dX11_lack_9 : decode cX11_lack 9 = .ok (.iconst (-1), 1) := by decide +kernel
theorem dX11_lack_10 : decode cX11_lack 10 = .ok (.ireturn, 1) := by decide +kernel
theorem dX11_lack_11 : decode cX11_lack 11 = .ok (.aload_n 0, 1) := by decide +kernel
theorem dX11_lack_12 : decode cX11_lack 12 = .ok (.invokevirtual 420, 3) := by decide +kernel
theorem dX11_lack_15 : decode cX11_lack 15 = .ok (.iload_n 1, 1) := by decide +kernel
theorem dX11_lack_16 : decode cX11_lack 16 = .ok (.ifCond .ne 17, 3) := by decide +kernel
theorem dX11_lack_19 : decode cX11_lack 19 = .ok (.aload_n 0, 1) := by decide +kernel
theorem dX11_lack_20 : decode cX11_lack 20 = .ok (.getfield 140, 3) := by decide +kernel
theorem dX11_lack_23 : decode cX11_lack 23 = .ok (.bipush 96, 2) := by decide +kernel
theorem dX11_lack_25 : decode cX11_lack 25 = .ok (.iaload, 1) := by decide +kernel
theorem dX11_lack_26 : decode cX11_lack 26 = .ok (.ldc_w 410, 3) := by decide +kernel
theorem dX11_lack_29 : decode cX11_lack 29 = .ok (.idiv, 1) := by decide +kernel
theorem dX11_lack_30 : decode cX11_lack 30 = .ok (.goto 14, 3) := by decide +kernel
theorem dX11_lack_33 : decode cX11_lack 33 = .ok (.aload_n 0, 1) := by decide +kernel
theorem dX11_lack_34 : decode cX11_lack 34 = .ok (.getfield 140, 3) := by decide +kernel
theorem dX11_lack_37 : decode cX11_lack 37 = .ok (.bipush 96, 2) := by decide +kernel
theorem dX11_lack_39 : decode cX11_lack 39 = .ok (.iaload, 1) := by decide +kernel
theorem dX11_lack_40 : decode cX11_lack 40 = .ok (.ldc_w 410, 3) := by decide +kernel
theorem dX11_lack_43 : decode cX11_lack 43 = .ok (.irem, 1) := by decide +kernel
theorem dX11_lack_44 : decode cX11_lack 44 = .ok (.ireturn, 1) := by decide +kernel
theorem dX11_lackAt_0 : decode cX11_lackAt 0 = .ok (.aload_n 0, 1) := by decide +kernel
theorem dX11_lackAt_1 : decode cX11_lackAt 1 = .ok (.invokevirtual 420, 3) := by decide +kernel
theorem dX11_lackAt_4 : decode cX11_lackAt 4 = .ok (.iload_n 1, 1) := by decide +kernel
theorem dX11_lackAt_5 : decode cX11_lackAt 5 = .ok (.iconst 0, 1) := by decide +kernel
theorem dX11_lackAt_6 : decode cX11_lackAt 6 = .ok (.aload_n 0, 1) := by decide +kernel
theorem dX11_lackAt_7 : decode cX11_lackAt 7 = .ok (.getfield 407, 3) := by decide +kernel
theorem dX11_lackAt_10 : decode cX11_lackAt 10 = .ok (.iconst 1, 1) := by decide +kernel
theorem dX11_lackAt_11 : decode cX11_lackAt 11 = .ok (.isub, 1) := by decide +kernel
theorem dX11_lackAt_12 : decode cX11_lackAt 12 = .ok (.invokestatic 345, 3) := by decide +kernel
theorem dX11_lackAt_15 : decode cX11_lackAt 15 = .ok (.ifCond .eq 28, 3) := by decide +kernel
theorem dX11_lackAt_18 : decode cX11_lackAt 18 = .ok (.bipush 100, 2) := by decide +kernel
theorem dX11_lackAt_20 : decode cX11_lackAt 20 = .ok (.aload_n 0, 1) := by decide +kernel
theorem dX11_lackAt_21 : decode cX11_lackAt 21 = .ok (.getfield 143, 3) := by decide +kernel
theorem dX11_lackAt_24 : decode cX11_lackAt 24 = .ok (.iload_n 1, 1) := by decide +kernel
theorem dX11_lackAt_25 : decode cX11_lackAt 25 = .ok (.iaload, 1) := by decide +kernel
theorem dX11_lackAt_26 : decode cX11_lackAt 26 = .ok (.bipush 12, 2) := by decide +kernel
theorem dX11_lackAt_28 : decode cX11_lackAt 28 = .ok (.idiv, 1) := by decide +kernel
theorem dX11_lackAt_29 : decode cX11_lackAt 29 = .ok (.imul, 1) := by decide +kernel
theorem dX11_lackAt_30 : decode cX11_lackAt 30 = .ok (.aload_n 0, 1) := by decide +kernel
theorem dX11_lackAt_31 : decode cX11_lackAt 31 = .ok (.getfield 143, 3) := by decide +kernel
theorem dX11_lackAt_34 : decode cX11_lackAt 34 = .ok (.iload_n 1, 1) := by decide +kernel
theorem dX11_lackAt_35 : decode cX11_lackAt 35 = .ok (.iaload, 1) := by decide +kernel
theorem dX11_lackAt_36 : decode cX11_lackAt 36 = .ok (.bipush 12, 2) := by decide +kernel
theorem dX11_lackAt_38 : decode cX11_lackAt 38 = .ok (.irem, 1) := by decide +kernel
theorem dX11_lackAt_39 : decode cX11_lackAt 39 = .ok (.iadd, 1) := by decide +kernel
theorem dX11_lackAt_40 : decode cX11_lackAt 40 = .ok (.goto 4, 3) := by decide +kernel
theorem dX11_lackAt_43 : decode cX11_lackAt 43 = .ok (.iconst (-1), 1) := by decide +kernel
theorem dX11_lackAt_44 : decode cX11_lackAt 44 = .ok (.ireturn, 1) := by decide +kernel
theorem dX11_leastSize_0 : decode cX11_leastSize 0 = .ok (.iconst 1, 1) := by decide +kernel
theorem dX11_leastSize_1 : decode cX11_leastSize 1 = .ok (.istore_n 2, 1) := by decide +kernel
theorem dX11_leastSize_2 : decode cX11_leastSize 2 = .ok (.iload_n 2, 1) := by decide +kernel
theorem dX11_leastSize_3 : decode cX11_leastSize 3 = .ok (.bipush 10, 2) := by decide +kernel
theorem dX11_leastSize_5 : decode cX11_leastSize 5 = .ok (.if_icmp .ge 37, 3) := by decide +kernel
theorem dX11_leastSize_8 : decode cX11_leastSize 8 = .ok (.aload_n 0, 1) := by decide +kernel
theorem dX11_leastSize_9 : decode cX11_leastSize 9 = .ok (.getfield 55, 3) := by decide +kernel
theorem dX11_leastSize_12 : decode cX11_leastSize 12 = .ok (.bipush 8, 2) := by decide +kernel
theorem dX11_leastSize_14 : decode cX11_leastSize 14 = .ok (.aload_n 0, 1) := by decide +kernel
theorem dX11_leastSize_15 : decode cX11_leastSize 15 = .ok (.getfield 269, 3) := by decide +kernel
theorem dX11_leastSize_18 : decode cX11_leastSize 18 = .ok (.imul, 1) := by decide +kernel
theorem dX11_leastSize_19 : decode cX11_leastSize 19 = .ok (.iload_n 1, 1) := by decide +kernel
theorem dX11_leastSize_20 : decode cX11_leastSize 20 = .ok (.bipush 12, 2) := by decide +kernel
theorem dX11_leastSize_22 : decode cX11_leastSize 22 = .ok (.idiv, 1) := by decide +kernel
theorem dX11_leastSize_23 : decode cX11_leastSize 23 = .ok (.iadd, 1) := by decide +kernel
theorem dX11_leastSize_24 : decode cX11_leastSize 24 = .ok (.iaload, 1) := by decide +kernel
theorem dX11_leastSize_25 : decode cX11_leastSize 25 = .ok (.iload_n 2, 1) := by decide +kernel
theorem dX11_leastSize_26 : decode cX11_leastSize 26 = .ok (.idiv, 1) := by decide +kernel
theorem dX11_leastSize_27 : decode cX11_leastSize 27 = .ok (.iload_n 1, 1) := by decide +kernel
theorem dX11_leastSize_28 : decode cX11_leastSize 28 = .ok (.bipush 12, 2) := by decide +kernel
theorem dX11_leastSize_30 : decode cX11_leastSize 30 = .ok (.irem, 1) := by decide +kernel
theorem dX11_leastSize_31 : decode cX11_leastSize 31 = .ok (.if_icmp .gt 5, 3) := by decide +kernel
theorem dX11_leastSize_34 : decode cX11_leastSize 34 = .ok (.iload_n 2, 1) := by decide +kernel
theorem dX11_leastSize_35 : decode cX11_leastSize 35 = .ok (.ireturn, 1) := by decide +kernel
theorem dX11_leastSize_36 : decode cX11_leastSize 36 = .ok (.iinc 2 1, 3) := by decide +kernel
theorem dX11_leastSize_39 : decode cX11_leastSize 39 = .ok (.goto (-37), 3) := by decide +kernel
theorem dX11_leastSize_42 : decode cX11_leastSize 42 = .ok (.bipush 10, 2) := by decide +kernel
theorem dX11_leastSize_44 : decode cX11_leastSize 44 = .ok (.ireturn, 1) := by decide +kernel
theorem dX11_fillsWants_0 : decode cX11_fillsWants 0 = .ok (.aload_n 0, 1) := by decide +kernel
theorem dX11_fillsWants_1 : decode cX11_fillsWants 1 = .ok (.invokevirtual 420, 3) := by decide +kernel
theorem dX11_fillsWants_4 : decode cX11_fillsWants 4 = .ok (.aload_n 0, 1) := by decide +kernel
theorem dX11_fillsWants_5 : decode cX11_fillsWants 5 = .ok (.iconst 0, 1) := by decide +kernel
theorem dX11_fillsWants_6 : decode cX11_fillsWants 6 = .ok (.putfield 423, 3) := by decide +kernel
theorem dX11_fillsWants_9 : decode cX11_fillsWants 9 = .ok (.iconst 0, 1) := by decide +kernel
theorem dX11_fillsWants_10 : decode cX11_fillsWants 10 = .ok (.istore_n 1, 1) := by decide +kernel
theorem dX11_fillsWants_11 : decode cX11_fillsWants 11 = .ok (.iload_n 1, 1) := by decide +kernel
theorem dX11_fillsWants_12 : decode cX11_fillsWants 12 = .ok (.aload_n 0, 1) := by decide +kernel
theorem dX11_fillsWants_13 : decode cX11_fillsWants 13 = .ok (.getfield 407, 3) := by decide +kernel
theorem dX11_fillsWants_16 : decode cX11_fillsWants 16 = .ok (.if_icmp .ge 70, 3) := by decide +kernel
theorem dX11_fillsWants_19 : decode cX11_fillsWants 19 = .ok (.aload_n 0, 1) := by decide +kernel
theorem dX11_fillsWants_20 : decode cX11_fillsWants 20 = .ok (.getfield 128, 3) := by decide +kernel
theorem dX11_fillsWants_23 : decode cX11_fillsWants 23 = .ok (.aload_n 0, 1) := by decide +kernel
theorem dX11_fillsWants_24 : decode cX11_fillsWants 24 = .ok (.getfield 143, 3) := by decide +kernel
theorem dX11_fillsWants_27 : decode cX11_fillsWants 27 = .ok (.iload_n 1, 1) := by decide +kernel
theorem dX11_fillsWants_28 : decode cX11_fillsWants 28 = .ok (.iaload, 1) := by decide +kernel
theorem dX11_fillsWants_29 : decode cX11_fillsWants 29 = .ok (.iaload, 1) := by decide +kernel
theorem dX11_fillsWants_30 : decode cX11_fillsWants 30 = .ok (.istore_n 2, 1) := by decide +kernel
theorem dX11_fillsWants_31 : decode cX11_fillsWants 31 = .ok (.iload_n 2, 1) := by decide +kernel
theorem dX11_fillsWants_32 : decode cX11_fillsWants 32 = .ok (.aload_n 0, 1) := by decide +kernel
theorem dX11_fillsWants_33 : decode cX11_fillsWants 33 = .ok (.aload_n 0, 1) := by decide +kernel
theorem dX11_fillsWants_34 : decode cX11_fillsWants 34 = .ok (.getfield 143, 3) := by decide +kernel
theorem dX11_fillsWants_37 : decode cX11_fillsWants 37 = .ok (.iload_n 1, 1) := by decide +kernel
theorem dX11_fillsWants_38 : decode cX11_fillsWants 38 = .ok (.iaload, 1) := by decide +kernel
theorem dX11_fillsWants_39 : decode cX11_fillsWants 39 = .ok (.invokevirtual 349, 3) := by decide +kernel
theorem dX11_fillsWants_42 : decode cX11_fillsWants 42 = .ok (.if_icmp .ge 38, 3) := by decide +kernel
theorem dX11_fillsWants_45 : decode cX11_fillsWants 45 = .ok (.aload_n 0, 1) := by decide +kernel
theorem dX11_fillsWants_46 : decode cX11_fillsWants 46 = .ok (.getfield 146, 3) := by decide +kernel
theorem dX11_fillsWants_49 : decode cX11_fillsWants 49 = .ok (.aload_n 0, 1) := by decide +kernel
theorem dX11_fillsWants_50 : decode cX11_fillsWants 50 = .ok (.getfield 423, 3) := by decide +kernel
theorem dX11_fillsWants_53 : decode cX11_fillsWants 53 = .ok (.aload_n 0, 1) := by decide +kernel
theorem dX11_fillsWants_54 : decode cX11_fillsWants 54 = .ok (.aload_n 0, 1) := by decide +kernel
theorem dX11_fillsWants_55 : decode cX11_fillsWants 55 = .ok (.getfield 143, 3) := by decide +kernel
theorem dX11_fillsWants_58 : decode cX11_fillsWants 58 = .ok (.iload_n 1, 1) := by decide +kernel
theorem dX11_fillsWants_59 : decode cX11_fillsWants 59 = .ok (.iaload, 1) := by decide +kernel
theorem dX11_fillsWants_60 : decode cX11_fillsWants 60 = .ok (.invokevirtual 426, 3) := by decide +kernel
theorem dX11_fillsWants_63 : decode cX11_fillsWants 63 = .ok (.iastore, 1) := by decide +kernel
theorem dX11_fillsWants_64 : decode cX11_fillsWants 64 = .ok (.aload_n 0, 1) := by decide +kernel
theorem dX11_fillsWants_65 : decode cX11_fillsWants 65 = .ok (.dup, 1) := by decide +kernel
theorem dX11_fillsWants_66 : decode cX11_fillsWants 66 = .ok (.getfield 423, 3) := by decide +kernel
theorem dX11_fillsWants_69 : decode cX11_fillsWants 69 = .ok (.iconst 1, 1) := by decide +kernel
theorem dX11_fillsWants_70 : decode cX11_fillsWants 70 = .ok (.iadd, 1) := by decide +kernel
theorem dX11_fillsWants_71 : decode cX11_fillsWants 71 = .ok (.putfield 423, 3) := by decide +kernel
theorem dX11_fillsWants_74 : decode cX11_fillsWants 74 = .ok (.iinc 2 1, 3) := by decide +kernel
theorem dX11_fillsWants_77 : decode cX11_fillsWants 77 = .ok (.goto (-46), 3) := by decide +kernel
theorem dX11_fillsWants_80 : decode cX11_fillsWants 80 = .ok (.iinc 1 1, 3) := by decide +kernel
theorem dX11_fillsWants_83 : decode cX11_fillsWants 83 = .ok (.goto (-72), 3) := by decide +kernel
theorem dX11_fillsWants_86 : decode cX11_fillsWants 86 = .ok (.iconst 0, 1) := by decide +kernel
theorem dX11_fillsWants_87 : decode cX11_fillsWants 87 = .ok (.istore_n 1, 1) := by decide +kernel
theorem dX11_fillsWants_88 : decode cX11_fillsWants 88 = .ok (.iload_n 1, 1) := by decide +kernel
theorem dX11_fillsWants_89 : decode cX11_fillsWants 89 = .ok (.bipush 8, 2) := by decide +kernel
theorem dX11_fillsWants_91 : decode cX11_fillsWants 91 = .ok (.if_icmp .ge 45, 3) := by decide +kernel
theorem dX11_fillsWants_94 : decode cX11_fillsWants 94 = .ok (.aload_n 0, 1) := by decide +kernel
theorem dX11_fillsWants_95 : decode cX11_fillsWants 95 = .ok (.getfield 149, 3) := by decide +kernel
theorem dX11_fillsWants_98 : decode cX11_fillsWants 98 = .ok (.iload_n 1, 1) := by decide +kernel
theorem dX11_fillsWants_99 : decode cX11_fillsWants 99 = .ok (.iload_n 1, 1) := by decide +kernel
theorem dX11_fillsWants_100 : decode cX11_fillsWants 100 = .ok (.aload_n 0, 1) := by decide +kernel
theorem dX11_fillsWants_101 : decode cX11_fillsWants 101 = .ok (.getfield 61, 3) := by decide +kernel
theorem dX11_fillsWants_104 : decode cX11_fillsWants 104 = .ok (.aload_n 0, 1) := by decide +kernel
theorem dX11_fillsWants_105 : decode cX11_fillsWants 105 = .ok (.getfield 269, 3) := by decide +kernel
theorem dX11_fillsWants_108 : decode cX11_fillsWants 108 = .ok (.iaload, 1) := by decide +kernel
theorem dX11_fillsWants_109 : decode cX11_fillsWants 109 = .ok (.if_icmp .ge 19, 3) := by decide +kernel
theorem dX11_fillsWants_112 : decode cX11_fillsWants 112 = .ok (.aload_n 0, 1) := by decide +kernel
theorem dX11_fillsWants_113 : decode cX11_fillsWants 113 = .ok (.iload_n 1, 1) := by decide +kernel
theorem dX11_fillsWants_114 : decode cX11_fillsWants 114 = .ok (.invokevirtual 385, 3) := by decide +kernel
theorem dX11_fillsWants_117 : decode cX11_fillsWants 117 = .ok (.ifCond .eq 11, 3) := by decide +kernel
theorem dX11_fillsWants_120 : decode cX11_fillsWants 120 = .ok (.aload_n 0, 1) := by decide +kernel
theorem dX11_fillsWants_121 : decode cX11_fillsWants 121 = .ok (.iload_n 1, 1) := by decide +kernel
theorem dX11_fillsWants_122 : decode cX11_fillsWants 122 = .ok (.invokevirtual 355, 3) := by decide +kernel
theorem dX11_fillsWants_125 : decode cX11_fillsWants 125 = .ok (.goto 4, 3) := by decide +kernel
theorem dX11_fillsWants_128 : decode cX11_fillsWants 128 = .ok (.iconst 0, 1) := by decide +kernel
theorem dX11_fillsWants_129 : decode cX11_fillsWants 129 = .ok (.iastore, 1) := by decide +kernel
theorem dX11_fillsWants_130 : decode cX11_fillsWants 130 = .ok (.iinc 1 1, 3) := by decide +kernel
theorem dX11_fillsWants_133 : decode cX11_fillsWants 133 = .ok (.goto (-45), 3) := by decide +kernel
theorem dX11_fillsWants_136 : decode cX11_fillsWants 136 = .ok (.return_, 1) := by decide +kernel
theorem dX11_isFit_0 : decode cX11_isFit 0 = .ok (.iconst 1, 1) := by decide +kernel
theorem dX11_isFit_1 : decode cX11_isFit 1 = .ok (.istore_n 2, 1) := by decide +kernel
theorem dX11_isFit_2 : decode cX11_isFit 2 = .ok (.iload_n 2, 1) := by decide +kernel
theorem dX11_isFit_3 : decode cX11_isFit 3 = .ok (.bipush 10, 2) := by decide +kernel
theorem dX11_isFit_5 : decode cX11_isFit 5 = .ok (.if_icmp .ge 101, 3) := by decide +kernel
theorem dX11_isFit_8 : decode cX11_isFit 8 = .ok (.iconst 0, 1) := by decide +kernel
theorem dX11_isFit_9 : decode cX11_isFit 9 = .ok (.istore_n 3, 1) := by decide +kernel
theorem dX11_isFit_10 : decode cX11_isFit 10 = .ok (.iload_n 1, 1) := by decide +kernel
theorem dX11_isFit_11 : decode cX11_isFit 11 = .ok (.istore 4, 2) := by decide +kernel
theorem dX11_isFit_13 : decode cX11_isFit 13 = .ok (.iload 4, 2) := by decide +kernel
theorem dX11_isFit_15 : decode cX11_isFit 15 = .ok (.aload_n 0, 1) := by decide +kernel
theorem dX11_isFit_16 : decode cX11_isFit 16 = .ok (.getfield 423, 3) := by decide +kernel
theorem dX11_isFit_19 : decode cX11_isFit 19 = .ok (.if_icmp .ge 23, 3) := by decide +kernel
theorem dX11_isFit_22 : decode cX11_isFit 22 = .ok (.aload_n 0, 1) := by decide +kernel
theorem dX11_isFit_23 : decode cX11_isFit 23 = .ok (.getfield 146, 3) := by decide +kernel
theorem dX11_isFit_26 : decode cX11_isFit 26 = .ok (.iload 4, 2) := by decide +kernel
theorem dX11_isFit_28 : decode cX11_isFit 28 = .ok (.iaload, 1) := by decide +kernel
theorem dX11_isFit_29 : decode cX11_isFit 29 = .ok (.iload_n 2, 1) := by decide +kernel
theorem dX11_isFit_30 : decode cX11_isFit 30 = .ok (.if_icmp .gt 6, 3) := by decide +kernel
theorem dX11_isFit_33 : decode cX11_isFit 33 = .ok (.iinc 3 1, 3) := by decide +kernel
theorem dX11_isFit_36 : decode cX11_isFit 36 = .ok (.iinc 4 1, 3) := by decide +kernel
theorem dX11_isFit_39 : decode cX11_isFit 39 = .ok (.goto (-26), 3) := by decide +kernel
theorem dX11_isFit_42 : decode cX11_isFit 42 = .ok (.iconst 0, 1) := by decide +kernel
theorem dX11_isFit_43 : decode cX11_isFit 43 = .ok (.istore 4, 2) := by decide +kernel
theorem dX11_isFit_45 : decode cX11_isFit 45 = .ok (.iload 4, 2) := by decide +kernel
theorem dX11_isFit_47 : decode cX11_isFit 47 = .ok (.aload_n 0, 1) := by decide +kernel
theorem dX11_isFit_48 : decode cX11_isFit 48 = .ok (.getfield 61, 3) := by decide +kernel
theorem dX11_isFit_51 : decode cX11_isFit 51 = .ok (.aload_n 0, 1) := by decide +kernel
theorem dX11_isFit_52 : decode cX11_isFit 52 = .ok (.getfield 269, 3) := by decide +kernel
theorem dX11_isFit_55 : decode cX11_isFit 55 = .ok (.iaload, 1) := by decide +kernel
theorem dX11_isFit_56 : decode cX11_isFit 56 = .ok (.if_icmp .ge 38, 3) := by decide +kernel
theorem dX11_isFit_59 : decode cX11_isFit 59 = .ok (.aload_n 0, 1) := by decide +kernel
theorem dX11_isFit_60 : decode cX11_isFit 60 = .ok (.getfield 67, 3) := by decide +kernel
theorem dX11_isFit_63 : decode cX11_isFit 63 = .ok (.bipush 8, 2) := by decide +kernel
theorem dX11_isFit_65 : decode cX11_isFit 65 = .ok (.aload_n 0, 1) := by decide +kernel
theorem dX11_isFit_66 : decode cX11_isFit 66 = .ok (.getfield 269, 3) := by decide +kernel
theorem dX11_isFit_69 : decode cX11_isFit 69 = .ok (.imul, 1) := by decide +kernel
theorem dX11_isFit_70 : decode cX11_isFit 70 = .ok (.iload 4, 2) := by decide +kernel
theorem dX11_isFit_72 : decode cX11_isFit 72 = .ok (.iadd, 1) := by decide +kernel
theorem dX11_isFit_73 : decode cX11_isFit 73 = .ok (.iaload, 1) := by decide +kernel
theorem dX11_isFit_74 : decode cX11_isFit 74 = .ok (.iload_n 2, 1) := by decide +kernel
theorem dX11_isFit_75 : decode cX11_isFit 75 = .ok (.if_icmp .gt 13, 3) := by decide +kernel
theorem dX11_isFit_78 : decode cX11_isFit 78 = .ok (.iload_n 3, 1) := by decide +kernel
theorem dX11_isFit_79 : decode cX11_isFit 79 = .ok (.aload_n 0, 1) := by decide +kernel
theorem dX11_isFit_80 : decode cX11_isFit 80 = .ok (.getfield 152, 3) := by decide +kernel
theorem dX11_isFit_83 : decode cX11_isFit 83 = .ok (.iload 4, 2) := by decide +kernel
theorem dX11_isFit_85 : decode cX11_isFit 85 = .ok (.iaload, 1) := by decide +kernel
theorem dX11_isFit_86 : decode cX11_isFit 86 = .ok (.isub, 1) := by decide +kernel
theorem dX11_isFit_87 : decode cX11_isFit 87 = .ok (.istore_n 3, 1) := by decide +kernel
theorem dX11_isFit_88 : decode cX11_isFit 88 = .ok (.iinc 4 1, 3) := by decide +kernel
theorem dX11_isFit_91 : decode cX11_isFit 91 = .ok (.goto (-46), 3) := by decide +kernel
theorem dX11_isFit_94 : decode cX11_isFit 94 = .ok (.iload_n 3, 1) := by decide +kernel
theorem dX11_isFit_95 : decode cX11_isFit 95 = .ok (.ifCond .ge 5, 3) := by decide +kernel
theorem dX11_isFit_98 : decode cX11_isFit 98 = .ok (.iconst 0, 1) := by decide +kernel
theorem dX11_isFit_99 : decode cX11_isFit 99 = .ok (.ireturn, 1) := by decide +kernel
theorem dX11_isFit_100 : decode cX11_isFit 100 = .ok (.iinc 2 1, 3) := by decide +kernel
theorem dX11_isFit_103 : decode cX11_isFit 103 = .ok (.goto (-101), 3) := by decide +kernel
theorem dX11_isFit_106 : decode cX11_isFit 106 = .ok (.iconst 1, 1) := by decide +kernel
theorem dX11_isFit_107 : decode cX11_isFit 107 = .ok (.ireturn, 1) := by decide +kernel
theorem dX11_leastGrief_0 : decode cX11_leastGrief 0 = .ok (.aload_n 0, 1) := by decide +kernel
theorem dX11_leastGrief_1 : decode cX11_leastGrief 1 = .ok (.getfield 423, 3) := by decide +kernel
theorem dX11_leastGrief_4 : decode cX11_leastGrief 4 = .ok (.iload_n 1, 1) := by decide +kernel
theorem dX11_leastGrief_5 : decode cX11_leastGrief 5 = .ok (.isub, 1) := by decide +kernel
theorem dX11_leastGrief_6 : decode cX11_leastGrief 6 = .ok (.istore_n 2, 1) := by decide +kernel
theorem dX11_leastGrief_7 : decode cX11_leastGrief 7 = .ok (.iconst 0, 1) := by decide +kernel
theorem dX11_leastGrief_8 : decode cX11_leastGrief 8 = .ok (.istore_n 3, 1) := by decide +kernel
theorem dX11_leastGrief_9 : decode cX11_leastGrief 9 = .ok (.iconst 0, 1) := by decide +kernel
theorem dX11_leastGrief_10 : decode cX11_leastGrief 10 = .ok (.istore 4, 2) := by decide +kernel
theorem dX11_leastGrief_12 : decode cX11_leastGrief 12 = .ok (.iload 4, 2) := by decide +kernel
theorem dX11_leastGrief_14 : decode cX11_leastGrief 14 = .ok (.bipush 8, 2) := by decide +kernel
theorem dX11_leastGrief_16 : decode cX11_leastGrief 16 = .ok (.if_icmp .ge 17, 3) := by decide +kernel
theorem dX11_leastGrief_19 : decode cX11_leastGrief 19 = .ok (.aload_n 0, 1) := by decide +kernel
theorem dX11_leastGrief_20 : decode cX11_leastGrief 20 = .ok (.getfield 152, 3) := by decide +kernel
theorem dX11_leastGrief_23 : decode cX11_leastGrief 23 = .ok (.iload 4, 2) := by decide +kernel
theorem dX11_leastGrief_25 : decode cX11_leastGrief 25 = .ok (.iconst 0, 1) := by decide +kernel
theorem dX11_leastGrief_26 : decode cX11_leastGrief 26 = .ok (.iastore, 1) := by decide +kernel
theorem dX11_leastGrief_27 : decode cX11_leastGrief 27 = .ok (.iinc 4 1, 3) := by decide +kernel
theorem dX11_leastGrief_30 : decode cX11_leastGrief 30 = .ok (.goto (-18), 3) := by decide +kernel
theorem dX11_leastGrief_33 : decode cX11_leastGrief 33 = .ok (.iconst 0, 1) := by decide +kernel
theorem dX11_leastGrief_34 : decode cX11_leastGrief 34 = .ok (.istore 4, 2) := by decide +kernel
theorem dX11_leastGrief_36 : decode cX11_leastGrief 36 = .ok (.iload 4, 2) := by decide +kernel
theorem dX11_leastGrief_38 : decode cX11_leastGrief 38 = .ok (.bipush 100, 2) := by decide +kernel
theorem dX11_leastGrief_40 : decode cX11_leastGrief 40 = .ok (.if_icmp .ge 120, 3) := by decide +kernel
theorem dX11_leastGrief_43 : decode cX11_leastGrief 43 = .ok (.iconst 0, 1) := by decide +kernel
theorem dX11_leastGrief_44 : decode cX11_leastGrief 44 = .ok (.istore 5, 2) := by decide +kernel
theorem dX11_leastGrief_46 : decode cX11_leastGrief 46 = .ok (.iload 5, 2) := by decide +kernel
theorem dX11_leastGrief_48 : decode cX11_leastGrief 48 = .ok (.aload_n 0, 1) := by decide +kernel
theorem dX11_leastGrief_49 : decode cX11_leastGrief 49 = .ok (.getfield 61, 3) := by decide +kernel
theorem dX11_leastGrief_52 : decode cX11_leastGrief 52 = .ok (.aload_n 0, 1) := by decide +kernel
theorem dX11_leastGrief_53 : decode cX11_leastGrief 53 = .ok (.getfield 269, 3) := by decide +kernel
theorem dX11_leastGrief_56 : decode cX11_leastGrief 56 = .ok (.iaload, 1) := by decide +kernel
theorem dX11_leastGrief_57 : decode cX11_leastGrief 57 = .ok (.if_icmp .ge 97, 3) := by decide +kernel
theorem dX11_leastGrief_60 : decode cX11_leastGrief 60 = .ok (.aload_n 0, 1) := by decide +kernel
theorem dX11_leastGrief_61 : decode cX11_leastGrief 61 = .ok (.getfield 73, 3) := by decide +kernel
theorem dX11_leastGrief_64 : decode cX11_leastGrief 64 = .ok (.bipush 8, 2) := by decide +kernel
theorem dX11_leastGrief_66 : decode cX11_leastGrief 66 = .ok (.aload_n 0, 1) := by decide +kernel
theorem dX11_leastGrief_67 : decode cX11_leastGrief 67 = .ok (.getfield 269, 3) := by decide +kernel
theorem dX11_leastGrief_70 : decode cX11_leastGrief 70 = .ok (.imul, 1) := by decide +kernel
theorem dX11_leastGrief_71 : decode cX11_leastGrief 71 = .ok (.iload 5, 2) := by decide +kernel
theorem dX11_leastGrief_73 : decode cX11_leastGrief 73 = .ok (.iadd, 1) := by decide +kernel
theorem dX11_leastGrief_74 : decode cX11_leastGrief 74 = .ok (.iaload, 1) := by decide +kernel
theorem dX11_leastGrief_75 : decode cX11_leastGrief 75 = .ok (.iload 4, 2) := by decide +kernel
theorem dX11_leastGrief_77 : decode cX11_leastGrief 77 = .ok (.if_icmp .eq 6, 3) := by decide +kernel
theorem dX11_leastGrief_80 : decode cX11_leastGrief 80 = .ok (.goto 68, 3) := by decide +kernel
theorem dX11_leastGrief_83 : decode cX11_leastGrief 83 = .ok (.aload_n 0, 1) := by decide +kernel
theorem dX11_leastGrief_84 : decode cX11_leastGrief 84 = .ok (.getfield 152, 3) := by decide +kernel
theorem dX11_leastGrief_87 : decode cX11_leastGrief 87 = .ok (.iload 5, 2) := by decide +kernel
theorem dX11_leastGrief_89 : decode cX11_leastGrief 89 = .ok (.iaload, 1) := by decide +kernel
theorem dX11_leastGrief_90 : decode cX11_leastGrief 90 = .ok (.aload_n 0, 1) := by decide +kernel
theorem dX11_leastGrief_91 : decode cX11_leastGrief 91 = .ok (.getfield 149, 3) := by decide +kernel
theorem dX11_leastGrief_94 : decode cX11_leastGrief 94 = .ok (.iload 5, 2) := by decide +kernel
theorem dX11_leastGrief_96 : decode cX11_leastGrief 96 = .ok (.iaload, 1) := by decide +kernel
theorem dX11_leastGrief_97 : decode cX11_leastGrief 97 = .ok (.if_icmp .ge 51, 3) := by decide +kernel
theorem dX11_leastGrief_100 : decode cX11_leastGrief 100 = .ok (.iload_n 2, 1) := by decide +kernel
theorem dX11_leastGrief_101 : decode cX11_leastGrief 101 = .ok (.ifCond .le 47, 3) := by decide +kernel
theorem dX11_leastGrief_104 : decode cX11_leastGrief 104 = .ok (.aload_n 0, 1) := by decide +kernel
theorem dX11_leastGrief_105 : decode cX11_leastGrief 105 = .ok (.getfield 152, 3) := by decide +kernel
theorem dX11_leastGrief_108 : decode cX11_leastGrief 108 = .ok (.iload 5, 2) := by decide +kernel
theorem dX11_leastGrief_110 : decode cX11_leastGrief 110 = .ok (.dup2, 1) := by decide +kernel
theorem dX11_leastGrief_111 : decode cX11_leastGrief 111 = .ok (.iaload, 1) := by decide +kernel
theorem dX11_leastGrief_112 : decode cX11_leastGrief 112 = .ok (.iconst 1, 1) := by decide +kernel
theorem dX11_leastGrief_113 : decode cX11_leastGrief 113 = .ok (.iadd, 1) := by decide +kernel
theorem dX11_leastGrief_114 : decode cX11_leastGrief 114 = .ok (.iastore, 1) := by decide +kernel
theorem dX11_leastGrief_115 : decode cX11_leastGrief 115 = .ok (.aload_n 0, 1) := by decide +kernel
theorem dX11_leastGrief_116 : decode cX11_leastGrief 116 = .ok (.iload_n 1, 1) := by decide +kernel
theorem dX11_leastGrief_117 : decode cX11_leastGrief 117 = .ok (.invokevirtual 429, 3) := by decide +kernel
theorem dX11_leastGrief_120 : decode cX11_leastGrief 120 = .ok (.ifCond .ne 17, 3) := by decide +kernel
theorem dX11_leastGrief_123 : decode cX11_leastGrief 123 = .ok (.aload_n 0, 1) := by decide +kernel
theorem dX11_leastGrief_124 : decode cX11_leastGrief 124 = .ok (.getfield 152, 3) := by decide +kernel
theorem dX11_leastGrief_127 : decode cX11_leastGrief 127 = .ok (.iload 5, 2) := by decide +kernel
theorem dX11_leastGrief_129 : decode cX11_leastGrief 129 = .ok (.dup2, 1) := by decide +kernel
theorem dX11_leastGrief_130 : decode cX11_leastGrief 130 = .ok (.iaload, 1) := by decide +kernel
theorem dX11_leastGrief_131 : decode cX11_leastGrief 131 = .ok (.iconst 1, 1) := by decide +kernel
theorem dX11_leastGrief_132 : decode cX11_leastGrief 132 = .ok (.isub, 1) := by decide +kernel
theorem dX11_leastGrief_133 : decode cX11_leastGrief 133 = .ok (.iastore, 1) := by decide +kernel
theorem dX11_leastGrief_134 : decode cX11_leastGrief 134 = .ok (.goto 14, 3) := by decide +kernel
theorem dX11_leastGrief_137 : decode cX11_leastGrief 137 = .ok (.iinc 2 (-1), 3) := by decide +kernel
theorem dX11_leastGrief_140 : decode cX11_leastGrief 140 = .ok (.iload_n 3, 1) := by decide +kernel
theorem dX11_leastGrief_141 : decode cX11_leastGrief 141 = .ok (.iload 4, 2) := by decide +kernel
theorem dX11_leastGrief_143 : decode cX11_leastGrief 143 = .ok (.iadd, 1) := by decide +kernel
theorem dX11_leastGrief_144 : decode cX11_leastGrief 144 = .ok (.istore_n 3, 1) := by decide +kernel
theorem dX11_leastGrief_145 : decode cX11_leastGrief 145 = .ok (.goto (-62), 3) := by decide +kernel
theorem dX11_leastGrief_148 : decode cX11_leastGrief 148 = .ok (.iinc 5 1, 3) := by decide +kernel
theorem dX11_leastGrief_151 : decode cX11_leastGrief 151 = .ok (.goto (-105), 3) := by decide +kernel
theorem dX11_leastGrief_154 : decode cX11_leastGrief 154 = .ok (.iinc 4 1, 3) := by decide +kernel
theorem dX11_leastGrief_157 : decode cX11_leastGrief 157 = .ok (.goto (-121), 3) := by decide +kernel
theorem dX11_leastGrief_160 : decode cX11_leastGrief 160 = .ok (.iload_n 2, 1) := by decide +kernel
theorem dX11_leastGrief_161 : decode cX11_leastGrief 161 = .ok (.ifCond .ne 7, 3) := by decide +kernel
theorem dX11_leastGrief_164 : decode cX11_leastGrief 164 = .ok (.iload_n 3, 1) := by decide +kernel
theorem dX11_leastGrief_165 : decode cX11_leastGrief 165 = .ok (.goto 4, 3) := by decide +kernel
theorem dX11_leastGrief_168 : decode cX11_leastGrief 168 = .ok (.iconst (-1), 1) := by decide +kernel
theorem dX11_leastGrief_169 : decode cX11_leastGrief 169 = .ok (.ireturn, 1) := by decide +kernel
theorem dX11_findsGivers_0 : decode cX11_findsGivers 0 = .ok (.aload_n 0, 1) := by decide +kernel
theorem dX11_findsGivers_1 : decode cX11_findsGivers 1 = .ok (.invokevirtual 432, 3) := by decide +kernel
theorem dX11_findsGivers_4 : decode cX11_findsGivers 4 = .ok (.iconst 0, 1) := by decide +kernel
theorem dX11_findsGivers_5 : decode cX11_findsGivers 5 = .ok (.istore_n 1, 1) := by decide +kernel
theorem dX11_findsGivers_6 : decode cX11_findsGivers 6 = .ok (.iload_n 1, 1) := by decide +kernel
theorem dX11_findsGivers_7 : decode cX11_findsGivers 7 = .ok (.bipush 8, 2) := by decide +kernel
theorem dX11_findsGivers_9 : decode cX11_findsGivers 9 = .ok (.if_icmp .ge 16, 3) := by decide +kernel
theorem dX11_findsGivers_12 : decode cX11_findsGivers 12 = .ok (.aload_n 0, 1) := by decide +kernel
theorem dX11_findsGivers_13 : decode cX11_findsGivers 13 = .ok (.getfield 158, 3) := by decide +kernel
theorem dX11_findsGivers_16 : decode cX11_findsGivers 16 = .ok (.iload_n 1, 1) := by decide +kernel
theorem dX11_findsGivers_17 : decode cX11_findsGivers 17 = .ok (.iconst 0, 1) := by decide +kernel
theorem dX11_findsGivers_18 : decode cX11_findsGivers 18 = .ok (.iastore, 1) := by decide +kernel
theorem dX11_findsGivers_19 : decode cX11_findsGivers 19 = .ok (.iinc 1 1, 3) := by decide +kernel
theorem dX11_findsGivers_22 : decode cX11_findsGivers 22 = .ok (.goto (-16), 3) := by decide +kernel
theorem dX11_findsGivers_25 : decode cX11_findsGivers 25 = .ok (.aload_n 0, 1) := by decide +kernel
theorem dX11_findsGivers_26 : decode cX11_findsGivers 26 = .ok (.getfield 423, 3) := by decide +kernel
theorem dX11_findsGivers_29 : decode cX11_findsGivers 29 = .ok (.bipush 72, 2) := by decide +kernel
theorem dX11_findsGivers_31 : decode cX11_findsGivers 31 = .ok (.if_icmp .le 5, 3) := by decide +kernel
theorem dX11_findsGivers_34 : decode cX11_findsGivers 34 = .ok (.iconst 0, 1) := by decide +kernel
theorem dX11_findsGivers_35 : decode cX11_findsGivers 35 = .ok (.ireturn, 1) := by decide +kernel
theorem dX11_findsGivers_36 : decode cX11_findsGivers 36 = .ok (.aload_n 0, 1) := by decide +kernel
theorem dX11_findsGivers_37 : decode cX11_findsGivers 37 = .ok (.aload_n 0, 1) := by decide +kernel
theorem dX11_findsGivers_38 : decode cX11_findsGivers 38 = .ok (.iconst 0, 1) := by decide +kernel
theorem dX11_findsGivers_39 : decode cX11_findsGivers 39 = .ok (.invokevirtual 435, 3) := by decide +kernel
theorem dX11_findsGivers_42 : decode cX11_findsGivers 42 = .ok (.putfield 438, 3) := by decide +kernel
theorem dX11_findsGivers_45 : decode cX11_findsGivers 45 = .ok (.aload_n 0, 1) := by decide +kernel
theorem dX11_findsGivers_46 : decode cX11_findsGivers 46 = .ok (.getfield 438, 3) := by decide +kernel
theorem dX11_findsGivers_49 : decode cX11_findsGivers 49 = .ok (.ifCond .ge 5, 3) := by decide +kernel
theorem dX11_findsGivers_52 : decode cX11_findsGivers 52 = .ok (.iconst 0, 1) := by decide +kernel
theorem dX11_findsGivers_53 : decode cX11_findsGivers 53 = .ok (.ireturn, 1) := by decide +kernel
theorem dX11_findsGivers_54 : decode cX11_findsGivers 54 = .ok (.aload_n 0, 1) := by decide +kernel
theorem dX11_findsGivers_55 : decode cX11_findsGivers 55 = .ok (.getfield 438, 3) := by decide +kernel
theorem dX11_findsGivers_58 : decode cX11_findsGivers 58 = .ok (.istore_n 1, 1) := by decide +kernel
theorem dX11_findsGivers_59 : decode cX11_findsGivers 59 = .ok (.iconst 0, 1) := by decide +kernel
theorem dX11_findsGivers_60 : decode cX11_findsGivers 60 = .ok (.istore_n 2, 1) := by decide +kernel
theorem dX11_findsGivers_61 : decode cX11_findsGivers 61 = .ok (.iload_n 2, 1) := by decide +kernel
theorem dX11_findsGivers_62 : decode cX11_findsGivers 62 = .ok (.aload_n 0, 1) := by decide +kernel
theorem dX11_findsGivers_63 : decode cX11_findsGivers 63 = .ok (.getfield 423, 3) := by decide +kernel
theorem dX11_findsGivers_66 : decode cX11_findsGivers 66 = .ok (.if_icmp .ge 133, 3) := by decide +kernel
theorem dX11_findsGivers_69 : decode cX11_findsGivers 69 = .ok (.iconst 0, 1) := by decide +kernel
theorem dX11_findsGivers_70 : decode cX11_findsGivers 70 = .ok (.istore_n 3, 1) := by decide +kernel
theorem dX11_findsGivers_71 : decode cX11_findsGivers 71 = .ok (.iload_n 3, 1) := by decide +kernel
theorem dX11_findsGivers_72 : decode cX11_findsGivers 72 = .ok (.aload_n 0, 1) := by decide +kernel
theorem dX11_findsGivers_73 : decode cX11_findsGivers 73 = .ok (.getfield 61, 3) := by decide +kernel
theorem dX11_findsGivers_76 : decode cX11_findsGivers 76 = .ok (.aload_n 0, 1) := by decide +kernel
theorem dX11_findsGivers_77 : decode cX11_findsGivers 77 = .ok (.getfield 269, 3) := by decide +kernel
theorem dX11_findsGivers_80 : decode cX11_findsGivers 80 = .ok (.iaload, 1) := by decide +kernel
theorem dX11_findsGivers_81 : decode cX11_findsGivers 81 = .ok (.if_icmp .ge 112, 3) := by decide +kernel
theorem dX11_findsGivers_84 : decode cX11_findsGivers 84 = .ok (.aload_n 0, 1) := by decide +kernel
theorem dX11_findsGivers_85 : decode cX11_findsGivers 85 = .ok (.getfield 149, 3) := by decide +kernel
theorem dX11_findsGivers_88 : decode cX11_findsGivers 88 = .ok (.iload_n 3, 1) := by decide +kernel
theorem dX11_findsGivers_89 : decode cX11_findsGivers 89 = .ok (.iaload, 1) := by decide +kernel
theorem dX11_findsGivers_90 : decode cX11_findsGivers 90 = .ok (.ifCond .eq 97, 3) := by decide +kernel
theorem dX11_findsGivers_93 : decode cX11_findsGivers 93 = .ok (.aload_n 0, 1) := by decide +kernel
theorem dX11_findsGivers_94 : decode cX11_findsGivers 94 = .ok (.getfield 67, 3) := by decide +kernel
theorem dX11_findsGivers_97 : decode cX11_findsGivers 97 = .ok (.bipush 8, 2) := by decide +kernel
theorem dX11_findsGivers_99 : decode cX11_findsGivers 99 = .ok (.aload_n 0, 1) := by decide +kernel
theorem dX11_findsGivers_100 : decode cX11_findsGivers 100 = .ok (.getfield 269, 3) := by decide +kernel
theorem dX11_findsGivers_103 : decode cX11_findsGivers 103 = .ok (.imul, 1) := by decide +kernel
theorem dX11_findsGivers_104 : decode cX11_findsGivers 104 = .ok (.iload_n 3, 1) := by decide +kernel
theorem dX11_findsGivers_105 : decode cX11_findsGivers 105 = .ok (.iadd, 1) := by decide +kernel
theorem dX11_findsGivers_106 : decode cX11_findsGivers 106 = .ok (.iaload, 1) := by decide +kernel
theorem dX11_findsGivers_107 : decode cX11_findsGivers 107 = .ok (.aload_n 0, 1) := by decide +kernel
theorem dX11_findsGivers_108 : decode cX11_findsGivers 108 = .ok (.getfield 146, 3) := by decide +kernel
theorem dX11_findsGivers_111 : decode cX11_findsGivers 111 = .ok (.iload_n 2, 1) := by decide +kernel
theorem dX11_findsGivers_112 : decode cX11_findsGivers 112 = .ok (.iaload, 1) := by decide +kernel
theorem dX11_findsGivers_113 : decode cX11_findsGivers 113 = .ok (.if_icmp .ge 6, 3) := by decide +kernel
theorem dX11_findsGivers_116 : decode cX11_findsGivers 116 = .ok (.goto 71, 3) := by decide +kernel
theorem dX11_findsGivers_119 : decode cX11_findsGivers 119 = .ok (.aload_n 0, 1) := by decide +kernel
theorem dX11_findsGivers_120 : decode cX11_findsGivers 120 = .ok (.getfield 149, 3) := by decide +kernel
theorem dX11_findsGivers_123 : decode cX11_findsGivers 123 = .ok (.iload_n 3, 1) := by decide +kernel
theorem dX11_findsGivers_124 : decode cX11_findsGivers 124 = .ok (.dup2, 1) := by decide +kernel
theorem dX11_findsGivers_125 : decode cX11_findsGivers 125 = .ok (.iaload, 1) := by decide +kernel
theorem dX11_findsGivers_126 : decode cX11_findsGivers 126 = .ok (.iconst 1, 1) := by decide +kernel
theorem dX11_findsGivers_127 : decode cX11_findsGivers 127 = .ok (.isub, 1) := by decide +kernel
theorem dX11_findsGivers_128 : decode cX11_findsGivers 128 = .ok (.iastore, 1) := by decide +kernel
theorem dX11_findsGivers_129 : decode cX11_findsGivers 129 = .ok (.aload_n 0, 1) := by decide +kernel
theorem dX11_findsGivers_130 : decode cX11_findsGivers 130 = .ok (.getfield 73, 3) := by decide +kernel
theorem dX11_findsGivers_133 : decode cX11_findsGivers 133 = .ok (.bipush 8, 2) := by decide +kernel
theorem dX11_findsGivers_135 : decode cX11_findsGivers 135 = .ok (.aload_n 0, 1) := by decide +kernel
theorem dX11_findsGivers_136 : decode cX11_findsGivers 136 = .ok (.getfield 269, 3) := by decide +kernel
theorem dX11_findsGivers_139 : decode cX11_findsGivers 139 = .ok (.imul, 1) := by decide +kernel
theorem dX11_findsGivers_140 : decode cX11_findsGivers 140 = .ok (.iload_n 3, 1) := by decide +kernel
theorem dX11_findsGivers_141 : decode cX11_findsGivers 141 = .ok (.iadd, 1) := by decide +kernel
theorem dX11_findsGivers_142 : decode cX11_findsGivers 142 = .ok (.iaload, 1) := by decide +kernel
theorem dX11_findsGivers_143 : decode cX11_findsGivers 143 = .ok (.istore 4, 2) := by decide +kernel
theorem dX11_findsGivers_145 : decode cX11_findsGivers 145 = .ok (.aload_n 0, 1) := by decide +kernel
theorem dX11_findsGivers_146 : decode cX11_findsGivers 146 = .ok (.iload_n 2, 1) := by decide +kernel
theorem dX11_findsGivers_147 : decode cX11_findsGivers 147 = .ok (.iconst 1, 1) := by decide +kernel
theorem dX11_findsGivers_148 : decode cX11_findsGivers 148 = .ok (.iadd, 1) := by decide +kernel
theorem dX11_findsGivers_149 : decode cX11_findsGivers 149 = .ok (.invokevirtual 435, 3) := by decide +kernel
theorem dX11_findsGivers_152 : decode cX11_findsGivers 152 = .ok (.iload_n 1, 1) := by decide +kernel
theorem dX11_findsGivers_153 : decode cX11_findsGivers 153 = .ok (.iload 4, 2) := by decide +kernel
theorem dX11_findsGivers_155 : decode cX11_findsGivers 155 = .ok (.isub, 1) := by decide +kernel
theorem dX11_findsGivers_156 : decode cX11_findsGivers 156 = .ok (.if_icmp .ne 21, 3) := by decide +kernel
theorem dX11_findsGivers_159 : decode cX11_findsGivers 159 = .ok (.aload_n 0, 1) := by decide +kernel
theorem dX11_findsGivers_160 : decode cX11_findsGivers 160 = .ok (.getfield 158, 3) := by decide +kernel
theorem dX11_findsGivers_163 : decode cX11_findsGivers 163 = .ok (.iload_n 3, 1) := by decide +kernel
theorem dX11_findsGivers_164 : decode cX11_findsGivers 164 = .ok (.dup2, 1) := by decide +kernel
theorem dX11_findsGivers_165 : decode cX11_findsGivers 165 = .ok (.iaload, 1) := by decide +kernel
theorem dX11_findsGivers_166 : decode cX11_findsGivers 166 = .ok (.iconst 1, 1) := by decide +kernel
theorem dX11_findsGivers_167 : decode cX11_findsGivers 167 = .ok (.iadd, 1) := by decide +kernel
theorem dX11_findsGivers_168 : decode cX11_findsGivers 168 = .ok (.iastore, 1) := by decide +kernel
theorem dX11_findsGivers_169 : decode cX11_findsGivers 169 = .ok (.iload_n 1, 1) := by decide +kernel
theorem dX11_findsGivers_170 : decode cX11_findsGivers 170 = .ok (.iload 4, 2) := by decide +kernel
theorem dX11_findsGivers_172 : decode cX11_findsGivers 172 = .ok (.isub, 1) := by decide +kernel
theorem dX11_findsGivers_173 : decode cX11_findsGivers 173 = .ok (.istore_n 1, 1) := by decide +kernel
theorem dX11_findsGivers_174 : decode cX11_findsGivers 174 = .ok (.goto 19, 3) := by decide +kernel
theorem dX11_findsGivers_177 : decode cX11_findsGivers 177 = .ok (.aload_n 0, 1) := by decide +kernel
theorem dX11_findsGivers_178 : decode cX11_findsGivers 178 = .ok (.getfield 149, 3) := by decide +kernel
theorem dX11_findsGivers_181 : decode cX11_findsGivers 181 = .ok (.iload_n 3, 1) := by decide +kernel
theorem dX11_findsGivers_182 : decode cX11_findsGivers 182 = .ok (.dup2, 1) := by decide +kernel
theorem dX11_findsGivers_183 : decode cX11_findsGivers 183 = .ok (.iaload, 1) := by decide +kernel
theorem dX11_findsGivers_184 : decode cX11_findsGivers 184 = .ok (.iconst 1, 1) := by decide +kernel
theorem dX11_findsGivers_185 : decode cX11_findsGivers 185 = .ok (.iadd, 1) := by decide +kernel
theorem dX11_findsGivers_186 : decode cX11_findsGivers 186 = .ok (.iastore, 1) := by decide +kernel
theorem dX11_findsGivers_187 : decode cX11_findsGivers 187 = .ok (.iinc 3 1, 3) := by decide +kernel
theorem dX11_findsGivers_190 : decode cX11_findsGivers 190 = .ok (.goto (-119), 3) := by decide +kernel
theorem dX11_findsGivers_193 : decode cX11_findsGivers 193 = .ok (.iinc 2 1, 3) := by decide +kernel
theorem dX11_findsGivers_196 : decode cX11_findsGivers 196 = .ok (.goto (-135), 3) := by decide +kernel
theorem dX11_findsGivers_199 : decode cX11_findsGivers 199 = .ok (.iconst 1, 1) := by decide +kernel
theorem dX11_findsGivers_200 : decode cX11_findsGivers 200 = .ok (.ireturn, 1) := by decide +kernel
theorem dX11_grief_0 : decode cX11_grief 0 = .ok (.aload_n 0, 1) := by decide +kernel
theorem dX11_grief_1 : decode cX11_grief 1 = .ok (.invokevirtual 441, 3) := by decide +kernel
theorem dX11_grief_4 : decode cX11_grief 4 = .ok (.ifCond .eq 10, 3) := by decide +kernel
theorem dX11_grief_7 : decode cX11_grief 7 = .ok (.aload_n 0, 1) := by decide +kernel
theorem dX11_grief_8 : decode cX11_grief 8 = .ok (.getfield 438, 3) := by decide +kernel
theorem dX11_grief_11 : decode cX11_grief 11 = .ok (.goto 5, 3) := by decide +kernel
theorem dX11_grief_14 : decode cX11_grief 14 = .ok (.bipush (-2), 2) := by decide +kernel
theorem dX11_grief_16 : decode cX11_grief 16 = .ok (.ireturn, 1) := by decide +kernel
theorem dX11_gives_0 : decode cX11_gives 0 = .ok (.aload_n 0, 1) := by decide +kernel
theorem dX11_gives_1 : decode cX11_gives 1 = .ok (.iload_n 1, 1) := by decide +kernel
theorem dX11_gives_2 : decode cX11_gives 2 = .ok (.invokevirtual 382, 3) := by decide +kernel
theorem dX11_gives_5 : decode cX11_gives 5 = .ok (.ifCond .ne 5, 3) := by decide +kernel
theorem dX11_gives_8 : decode cX11_gives 8 = .ok (.iconst (-1), 1) := by decide +kernel
theorem dX11_gives_9 : decode cX11_gives 9 = .ok (.ireturn, 1) := by decide +kernel
theorem dX11_gives_10 : decode cX11_gives 10 = .ok (.aload_n 0, 1) := by decide +kernel
theorem dX11_gives_11 : decode cX11_gives 11 = .ok (.invokevirtual 441, 3) := by decide +kernel
theorem dX11_gives_14 : decode cX11_gives 14 = .ok (.ifCond .eq 12, 3) := by decide +kernel
theorem dX11_gives_17 : decode cX11_gives 17 = .ok (.aload_n 0, 1) := by decide +kernel
theorem dX11_gives_18 : decode cX11_gives 18 = .ok (.getfield 158, 3) := by decide +kernel
theorem dX11_gives_21 : decode cX11_gives 21 = .ok (.iload_n 1, 1) := by decide +kernel
theorem dX11_gives_22 : decode cX11_gives 22 = .ok (.iaload, 1) := by decide +kernel
theorem dX11_gives_23 : decode cX11_gives 23 = .ok (.goto 5, 3) := by decide +kernel
theorem dX11_gives_26 : decode cX11_gives 26 = .ok (.bipush (-2), 2) := by decide +kernel
theorem dX11_gives_28 : decode cX11_gives 28 = .ok (.ireturn, 1) := by decide +kernel
theorem dX11_isOver_0 : decode cX11_isOver 0 = .ok (.iconst 0, 1) := by decide +kernel
theorem dX11_isOver_1 : decode cX11_isOver 1 = .ok (.istore_n 1, 1) := by decide +kernel
theorem dX11_isOver_2 : decode cX11_isOver 2 = .ok (.iload_n 1, 1) := by decide +kernel
theorem dX11_isOver_3 : decode cX11_isOver 3 = .ok (.bipush 96, 2) := by decide +kernel
theorem dX11_isOver_5 : decode cX11_isOver 5 = .ok (.if_icmp .ge 50, 3) := by decide +kernel
theorem dX11_isOver_8 : decode cX11_isOver 8 = .ok (.aload_n 0, 1) := by decide +kernel
theorem dX11_isOver_9 : decode cX11_isOver 9 = .ok (.getfield 134, 3) := by decide +kernel
theorem dX11_isOver_12 : decode cX11_isOver 12 = .ok (.iload_n 1, 1) := by decide +kernel
theorem dX11_isOver_13 : decode cX11_isOver 13 = .ok (.aload_n 0, 1) := by decide +kernel
theorem dX11_isOver_14 : decode cX11_isOver 14 = .ok (.iload_n 1, 1) := by decide +kernel
theorem dX11_isOver_15 : decode cX11_isOver 15 = .ok (.bipush 12, 2) := by decide +kernel
theorem dX11_isOver_17 : decode cX11_isOver 17 = .ok (.irem, 1) := by decide +kernel
theorem dX11_isOver_18 : decode cX11_isOver 18 = .ok (.iload_n 1, 1) := by decide +kernel
theorem dX11_isOver_19 : decode cX11_isOver 19 = .ok (.bipush 12, 2) := by decide +kernel
theorem dX11_isOver_21 : decode cX11_isOver 21 = .ok (.idiv, 1) := by decide +kernel
theorem dX11_isOver_22 : decode cX11_isOver 22 = .ok (.invokevirtual 369, 3) := by decide +kernel
theorem dX11_isOver_25 : decode cX11_isOver 25 = .ok (.ifCond .eq 15, 3) := by decide +kernel
theorem dX11_isOver_28 : decode cX11_isOver 28 = .ok (.aload_n 0, 1) := by decide +kernel
theorem dX11_isOver_29 : decode cX11_isOver 29 = .ok (.iload_n 1, 1) := by decide +kernel
theorem dX11_isOver_30 : decode cX11_isOver 30 = .ok (.invokevirtual 376, 3) := by decide +kernel
theorem dX11_isOver_33 : decode cX11_isOver 33 = .ok (.ifCond .eq 7, 3) := by decide +kernel
theorem dX11_isOver_36 : decode cX11_isOver 36 = .ok (.iconst 1, 1) := by decide +kernel
theorem dX11_isOver_37 : decode cX11_isOver 37 = .ok (.goto 4, 3) := by decide +kernel
theorem dX11_isOver_40 : decode cX11_isOver 40 = .ok (.iconst 0, 1) := by decide +kernel
theorem dX11_isOver_41 : decode cX11_isOver 41 = .ok (.bastore, 1) := by decide +kernel
theorem dX11_isOver_42 : decode cX11_isOver 42 = .ok (.aload_n 0, 1) := by decide +kernel
theorem dX11_isOver_43 : decode cX11_isOver 43 = .ok (.getfield 137, 3) := by decide +kernel
theorem dX11_isOver_46 : decode cX11_isOver 46 = .ok (.iload_n 1, 1) := by decide +kernel
theorem dX11_isOver_47 : decode cX11_isOver 47 = .ok (.iconst 0, 1) := by decide +kernel
theorem dX11_isOver_48 : decode cX11_isOver 48 = .ok (.iastore, 1) := by decide +kernel
theorem dX11_isOver_49 : decode cX11_isOver 49 = .ok (.iinc 1 1, 3) := by decide +kernel
theorem dX11_isOver_52 : decode cX11_isOver 52 = .ok (.goto (-50), 3) := by decide +kernel
theorem dX11_isOver_55 : decode cX11_isOver 55 = .ok (.aload_n 0, 1) := by decide +kernel
theorem dX11_isOver_56 : decode cX11_isOver 56 = .ok (.iconst 1, 1) := by decide +kernel
theorem dX11_isOver_57 : decode cX11_isOver 57 = .ok (.invokevirtual 411, 3) := by decide +kernel
theorem dX11_isOver_60 : decode cX11_isOver 60 = .ok (.aload_n 0, 1) := by decide +kernel
theorem dX11_isOver_61 : decode cX11_isOver 61 = .ok (.getfield 140, 3) := by decide +kernel
theorem dX11_isOver_64 : decode cX11_isOver 64 = .ok (.bipush 96, 2) := by decide +kernel
theorem dX11_isOver_66 : decode cX11_isOver 66 = .ok (.iaload, 1) := by decide +kernel
theorem dX11_isOver_67 : decode cX11_isOver 67 = .ok (.ldc_w 400, 3) := by decide +kernel
theorem dX11_isOver_70 : decode cX11_isOver 70 = .ok (.if_icmp .ge 7, 3) := by decide +kernel
theorem dX11_isOver_73 : decode cX11_isOver 73 = .ok (.iconst 1, 1) := by decide +kernel
theorem dX11_isOver_74 : decode cX11_isOver 74 = .ok (.goto 4, 3) := by decide +kernel
theorem dX11_isOver_77 : decode cX11_isOver 77 = .ok (.iconst 0, 1) := by decide +kernel
theorem dX11_isOver_78 : decode cX11_isOver 78 = .ok (.ireturn, 1) := by decide +kernel
theorem dX11_isOverBy_0 : decode cX11_isOverBy 0 = .ok (.aload_n 0, 1) := by decide +kernel
theorem dX11_isOverBy_1 : decode cX11_isOverBy 1 = .ok (.invokevirtual 373, 3) := by decide +kernel
theorem dX11_isOverBy_4 : decode cX11_isOverBy 4 = .ok (.iconst 0, 1) := by decide +kernel
theorem dX11_isOverBy_5 : decode cX11_isOverBy 5 = .ok (.istore_n 2, 1) := by decide +kernel
theorem dX11_isOverBy_6 : decode cX11_isOverBy 6 = .ok (.iload_n 2, 1) := by decide +kernel
theorem dX11_isOverBy_7 : decode cX11_isOverBy 7 = .ok (.bipush 96, 2) := by decide +kernel
theorem dX11_isOverBy_9 : decode cX11_isOverBy 9 = .ok (.if_icmp .ge 16, 3) := by decide +kernel
theorem dX11_isOverBy_12 : decode cX11_isOverBy 12 = .ok (.aload_n 0, 1) := by decide +kernel
theorem dX11_isOverBy_13 : decode cX11_isOverBy 13 = .ok (.getfield 128, 3) := by decide +kernel
theorem dX11_isOverBy_16 : decode cX11_isOverBy 16 = .ok (.iload_n 2, 1) := by decide +kernel
theorem dX11_isOverBy_17 : decode cX11_isOverBy 17 = .ok (.iconst 0, 1) := by decide +kernel
theorem dX11_isOverBy_18 : decode cX11_isOverBy 18 = .ok (.iastore, 1) := by decide +kernel
theorem dX11_isOverBy_19 : decode cX11_isOverBy 19 = .ok (.iinc 2 1, 3) := by decide +kernel
theorem dX11_isOverBy_22 : decode cX11_isOverBy 22 = .ok (.goto (-16), 3) := by decide +kernel
theorem dX11_isOverBy_25 : decode cX11_isOverBy 25 = .ok (.iconst 0, 1) := by decide +kernel
theorem dX11_isOverBy_26 : decode cX11_isOverBy 26 = .ok (.istore_n 2, 1) := by decide +kernel
theorem dX11_isOverBy_27 : decode cX11_isOverBy 27 = .ok (.iload_n 2, 1) := by decide +kernel
theorem dX11_isOverBy_28 : decode cX11_isOverBy 28 = .ok (.bipush 72, 2) := by decide +kernel
theorem dX11_isOverBy_30 : decode cX11_isOverBy 30 = .ok (.if_icmp .ge 45, 3) := by decide +kernel
theorem dX11_isOverBy_33 : decode cX11_isOverBy 33 = .ok (.aload_n 0, 1) := by decide +kernel
theorem dX11_isOverBy_34 : decode cX11_isOverBy 34 = .ok (.getfield 125, 3) := by decide +kernel
theorem dX11_isOverBy_37 : decode cX11_isOverBy 37 = .ok (.iload_n 2, 1) := by decide +kernel
theorem dX11_isOverBy_38 : decode cX11_isOverBy 38 = .ok (.iaload, 1) := by decide +kernel
theorem dX11_isOverBy_39 : decode cX11_isOverBy 39 = .ok (.ifCond .lt 30, 3) := by decide +kernel
theorem dX11_isOverBy_42 : decode cX11_isOverBy 42 = .ok (.iload_n 1, 1) := by decide +kernel
theorem dX11_isOverBy_43 : decode cX11_isOverBy 43 = .ok (.iload_n 2, 1) := by decide +kernel
theorem dX11_isOverBy_44 : decode cX11_isOverBy 44 = .ok (.bipush 9, 2) := by decide +kernel
theorem dX11_isOverBy_46 : decode cX11_isOverBy 46 = .ok (.idiv, 1) := by decide +kernel
theorem dX11_isOverBy_47 : decode cX11_isOverBy 47 = .ok (.ishr, 1) := by decide +kernel
theorem dX11_isOverBy_48 : decode cX11_isOverBy 48 = .ok (.iconst 1, 1) := by decide +kernel
theorem dX11_isOverBy_49 : decode cX11_isOverBy 49 = .ok (.iand, 1) := by decide +kernel
theorem dX11_isOverBy_50 : decode cX11_isOverBy 50 = .ok (.iconst 1, 1) := by decide +kernel
theorem dX11_isOverBy_51 : decode cX11_isOverBy 51 = .ok (.if_icmp .ne 18, 3) := by decide +kernel
theorem dX11_isOverBy_54 : decode cX11_isOverBy 54 = .ok (.aload_n 0, 1) := by decide +kernel
theorem dX11_isOverBy_55 : decode cX11_isOverBy 55 = .ok (.getfield 128, 3) := by decide +kernel
theorem dX11_isOverBy_58 : decode cX11_isOverBy 58 = .ok (.aload_n 0, 1) := by decide +kernel
theorem dX11_isOverBy_59 : decode cX11_isOverBy 59 = .ok (.getfield 125, 3) := by decide +kernel
theorem dX11_isOverBy_62 : decode cX11_isOverBy 62 = .ok (.iload_n 2, 1) := by decide +kernel
theorem dX11_isOverBy_63 : decode cX11_isOverBy 63 = .ok (.iaload, 1) := by decide +kernel
theorem dX11_isOverBy_64 : decode cX11_isOverBy 64 = .ok (.dup2, 1) := by decide +kernel
theorem dX11_isOverBy_65 : decode cX11_isOverBy 65 = .ok (.iaload, 1) := by decide +kernel
theorem dX11_isOverBy_66 : decode cX11_isOverBy 66 = .ok (.iconst 1, 1) := by decide +kernel
theorem dX11_isOverBy_67 : decode cX11_isOverBy 67 = .ok (.iadd, 1) := by decide +kernel
theorem dX11_isOverBy_68 : decode cX11_isOverBy 68 = .ok (.iastore, 1) := by decide +kernel
theorem dX11_isOverBy_69 : decode cX11_isOverBy 69 = .ok (.iinc 2 1, 3) := by decide +kernel
theorem dX11_isOverBy_72 : decode cX11_isOverBy 72 = .ok (.goto (-45), 3) := by decide +kernel
theorem dX11_isOverBy_75 : decode cX11_isOverBy 75 = .ok (.aload_n 0, 1) := by decide +kernel
theorem dX11_isOverBy_76 : decode cX11_isOverBy 76 = .ok (.invokevirtual 445, 3) := by decide +kernel
theorem dX11_isOverBy_79 : decode cX11_isOverBy 79 = .ok (.ireturn, 1) := by decide +kernel
theorem dX11_needed_0 : decode cX11_needed 0 = .ok (.aload_n 0, 1) := by decide +kernel
theorem dX11_needed_1 : decode cX11_needed 1 = .ok (.sipush 255, 3) := by decide +kernel
theorem dX11_needed_4 : decode cX11_needed 4 = .ok (.invokevirtual 448, 3) := by decide +kernel
theorem dX11_needed_7 : decode cX11_needed 7 = .ok (.ifCond .ne 5, 3) := by decide +kernel
theorem dX11_needed_10 : decode cX11_needed 10 = .ok (.iconst 0, 1) := by decide +kernel
theorem dX11_needed_11 : decode cX11_needed 11 = .ok (.ireturn, 1) := by decide +kernel
theorem dX11_needed_12 : decode cX11_needed 12 = .ok (.iconst 0, 1) := by decide +kernel
theorem dX11_needed_13 : decode cX11_needed 13 = .ok (.istore_n 1, 1) := by decide +kernel
theorem dX11_needed_14 : decode cX11_needed 14 = .ok (.iconst 0, 1) := by decide +kernel
theorem dX11_needed_15 : decode cX11_needed 15 = .ok (.istore_n 2, 1) := by decide +kernel
theorem dX11_needed_16 : decode cX11_needed 16 = .ok (.iload_n 2, 1) := by decide +kernel
theorem dX11_needed_17 : decode cX11_needed 17 = .ok (.aload_n 0, 1) := by decide +kernel
theorem dX11_needed_18 : decode cX11_needed 18 = .ok (.getfield 61, 3) := by decide +kernel
theorem dX11_needed_21 : decode cX11_needed 21 = .ok (.aload_n 0, 1) := by decide +kernel
theorem dX11_needed_22 : decode cX11_needed 22 = .ok (.getfield 269, 3) := by decide +kernel
theorem dX11_needed_25 : decode cX11_needed 25 = .ok (.iaload, 1) := by decide +kernel
theorem dX11_needed_26 : decode cX11_needed 26 = .ok (.if_icmp .ge 31, 3) := by decide +kernel
theorem dX11_needed_29 : decode cX11_needed 29 = .ok (.aload_n 0, 1) := by decide +kernel
theorem dX11_needed_30 : decode cX11_needed 30 = .ok (.sipush 255, 3) := by decide +kernel
theorem dX11_needed_33 : decode cX11_needed 33 = .ok (.iconst 1, 1) := by decide +kernel
theorem dX11_needed_34 : decode cX11_needed 34 = .ok (.iload_n 2, 1) := by decide +kernel
theorem dX11_needed_35 : decode cX11_needed 35 = .ok (.ishl, 1) := by decide +kernel
theorem dX11_needed_36 : decode cX11_needed 36 = .ok (.iconst (-1), 1) := by decide +kernel
theorem dX11_needed_37 : decode cX11_needed 37 = .ok (.ixor, 1) := by decide +kernel
theorem dX11_needed_38 : decode cX11_needed 38 = .ok (.iand, 1) := by decide +kernel
theorem dX11_needed_39 : decode cX11_needed 39 = .ok (.invokevirtual 448, 3) := by decide +kernel
theorem dX11_needed_42 : decode cX11_needed 42 = .ok (.ifCond .ne 9, 3) := by decide +kernel
theorem dX11_needed_45 : decode cX11_needed 45 = .ok (.iload_n 1, 1) := by decide +kernel
theorem dX11_needed_46 : decode cX11_needed 46 = .ok (.iconst 1, 1) := by decide +kernel
theorem dX11_needed_47 : decode cX11_needed 47 = .ok (.iload_n 2, 1) := by decide +kernel
theorem dX11_needed_48 : decode cX11_needed 48 = .ok (.ishl, 1) := by decide +kernel
theorem dX11_needed_49 : decode cX11_needed 49 = .ok (.ior, 1) := by decide +kernel
theorem dX11_needed_50 : decode cX11_needed 50 = .ok (.istore_n 1, 1) := by decide +kernel
theorem dX11_needed_51 : decode cX11_needed 51 = .ok (.iinc 2 1, 3) := by decide +kernel
theorem dX11_needed_54 : decode cX11_needed 54 = .ok (.goto (-38), 3) := by decide +kernel
theorem dX11_needed_57 : decode cX11_needed 57 = .ok (.iload_n 1, 1) := by decide +kernel
theorem dX11_needed_58 : decode cX11_needed 58 = .ok (.ireturn, 1) := by decide +kernel
theorem dX11_alone_0 : decode cX11_alone 0 = .ok (.iconst 0, 1) := by decide +kernel
theorem dX11_alone_1 : decode cX11_alone 1 = .ok (.istore_n 1, 1) := by decide +kernel
theorem dX11_alone_2 : decode cX11_alone 2 = .ok (.iconst 0, 1) := by decide +kernel
theorem dX11_alone_3 : decode cX11_alone 3 = .ok (.istore_n 2, 1) := by decide +kernel
theorem dX11_alone_4 : decode cX11_alone 4 = .ok (.iload_n 2, 1) := by decide +kernel
theorem dX11_alone_5 : decode cX11_alone 5 = .ok (.aload_n 0, 1) := by decide +kernel
theorem dX11_alone_6 : decode cX11_alone 6 = .ok (.getfield 61, 3) := by decide +kernel
theorem dX11_alone_9 : decode cX11_alone 9 = .ok (.aload_n 0, 1) := by decide +kernel
theorem dX11_alone_10 : decode cX11_alone 10 = .ok (.getfield 269, 3) := by decide +kernel
theorem dX11_alone_13 : decode cX11_alone 13 = .ok (.iaload, 1) := by decide +kernel
theorem dX11_alone_14 : decode cX11_alone 14 = .ok (.if_icmp .ge 25, 3) := by decide +kernel
theorem dX11_alone_17 : decode cX11_alone 17 = .ok (.aload_n 0, 1) := by decide +kernel
theorem dX11_alone_18 : decode cX11_alone 18 = .ok (.iconst 1, 1) := by decide +kernel
theorem dX11_alone_19 : decode cX11_alone 19 = .ok (.iload_n 2, 1) := by decide +kernel
theorem dX11_alone_20 : decode cX11_alone 20 = .ok (.ishl, 1) := by decide +kernel
theorem dX11_alone_21 : decode cX11_alone 21 = .ok (.invokevirtual 448, 3) := by decide +kernel
theorem dX11_alone_24 : decode cX11_alone 24 = .ok (.ifCond .eq 9, 3) := by decide +kernel
theorem dX11_alone_27 : decode cX11_alone 27 = .ok (.iload_n 1, 1) := by decide +kernel
theorem dX11_alone_28 : decode cX11_alone 28 = .ok (.iconst 1, 1) := by decide +kernel
theorem dX11_alone_29 : decode cX11_alone 29 = .ok (.iload_n 2, 1) := by decide +kernel
theorem dX11_alone_30 : decode cX11_alone 30 = .ok (.ishl, 1) := by decide +kernel
theorem dX11_alone_31 : decode cX11_alone 31 = .ok (.ior, 1) := by decide +kernel
theorem dX11_alone_32 : decode cX11_alone 32 = .ok (.istore_n 1, 1) := by decide +kernel
theorem dX11_alone_33 : decode cX11_alone 33 = .ok (.iinc 2 1, 3) := by decide +kernel
theorem dX11_alone_36 : decode cX11_alone 36 = .ok (.goto (-32), 3) := by decide +kernel
theorem dX11_alone_39 : decode cX11_alone 39 = .ok (.iload_n 1, 1) := by decide +kernel
theorem dX11_alone_40 : decode cX11_alone 40 = .ok (.ireturn, 1) := by decide +kernel
theorem dX11_breaks_0 : decode cX11_breaks 0 = .ok (.aload_n 0, 1) := by decide +kernel
theorem dX11_breaks_1 : decode cX11_breaks 1 = .ok (.sipush 255, 3) := by decide +kernel
theorem dX11_breaks_4 : decode cX11_breaks 4 = .ok (.invokevirtual 448, 3) := by decide +kernel
theorem dX11_breaks_7 : decode cX11_breaks 7 = .ok (.ifCond .ne 6, 3) := by decide +kernel
theorem dX11_breaks_10 : decode cX11_breaks 10 = .ok (.bipush (-3), 2) := by decide +kernel
theorem dX11_breaks_12 : decode cX11_breaks 12 = .ok (.ireturn, 1) := by decide +kernel
theorem dX11_breaks_13 : decode cX11_breaks 13 = .ok (.aload_n 0, 1) := by decide +kernel
theorem dX11_breaks_14 : decode cX11_breaks 14 = .ok (.invokevirtual 373, 3) := by decide +kernel
theorem dX11_breaks_17 : decode cX11_breaks 17 = .ok (.iconst 0, 1) := by decide +kernel
theorem dX11_breaks_18 : decode cX11_breaks 18 = .ok (.istore_n 1, 1) := by decide +kernel
theorem dX11_breaks_19 : decode cX11_breaks 19 = .ok (.iload_n 1, 1) := by decide +kernel
theorem dX11_breaks_20 : decode cX11_breaks 20 = .ok (.sipush 200, 3) := by decide +kernel
theorem dX11_breaks_23 : decode cX11_breaks 23 = .ok (.if_icmp .ge 31, 3) := by decide +kernel
theorem dX11_breaks_26 : decode cX11_breaks 26 = .ok (.aload_n 0, 1) := by decide +kernel
theorem dX11_breaks_27 : decode cX11_breaks 27 = .ok (.invokevirtual 397, 3) := by decide +kernel
theorem dX11_breaks_30 : decode cX11_breaks 30 = .ok (.aload_n 0, 1) := by decide +kernel
theorem dX11_breaks_31 : decode cX11_breaks 31 = .ok (.invokevirtual 445, 3) := by decide +kernel
theorem dX11_breaks_34 : decode cX11_breaks 34 = .ok (.ifCond .ne 14, 3) := by decide +kernel
theorem dX11_breaks_37 : decode cX11_breaks 37 = .ok (.aload_n 0, 1) := by decide +kernel
theorem dX11_breaks_38 : decode cX11_breaks 38 = .ok (.getfield 125, 3) := by decide +kernel
theorem dX11_breaks_41 : decode cX11_breaks 41 = .ok (.sipush 240, 3) := by decide +kernel
theorem dX11_breaks_44 : decode cX11_breaks 44 = .ok (.iaload, 1) := by decide +kernel
theorem dX11_breaks_45 : decode cX11_breaks 45 = .ok (.iconst 1, 1) := by decide +kernel
theorem dX11_breaks_46 : decode cX11_breaks 46 = .ok (.isub, 1) := by decide +kernel
theorem dX11_breaks_47 : decode cX11_breaks 47 = .ok (.ireturn, 1) := by decide +kernel
theorem dX11_breaks_48 : decode cX11_breaks 48 = .ok (.iinc 1 1, 3) := by decide +kernel
theorem dX11_breaks_51 : decode cX11_breaks 51 = .ok (.goto (-32), 3) := by decide +kernel
theorem dX11_breaks_54 : decode cX11_breaks 54 = .ok (.bipush (-2), 2) := by decide +kernel
theorem dX11_breaks_56 : decode cX11_breaks 56 = .ok (.ireturn, 1) := by decide +kernel
theorem dX11_finds_0 : decode cX11_finds 0 = .ok (.aload_n 0, 1) := by decide +kernel
theorem dX11_finds_1 : decode cX11_finds 1 = .ok (.getfield 173, 3) := by decide +kernel
theorem dX11_finds_4 : decode cX11_finds 4 = .ok (.iload_n 1, 1) := by decide +kernel
theorem dX11_finds_5 : decode cX11_finds 5 = .ok (.iaload, 1) := by decide +kernel
theorem dX11_finds_6 : decode cX11_finds 6 = .ok (.iconst (-1), 1) := by decide +kernel
theorem dX11_finds_7 : decode cX11_finds 7 = .ok (.if_icmp .eq 4, 3) := by decide +kernel
theorem dX11_finds_10 : decode cX11_finds 10 = .ok (.return_, 1) := by decide +kernel
theorem dX11_finds_11 : decode cX11_finds 11 = .ok (.aload_n 0, 1) := by decide +kernel
theorem dX11_finds_12 : decode cX11_finds 12 = .ok (.getfield 173, 3) := by decide +kernel
theorem dX11_finds_15 : decode cX11_finds 15 = .ok (.iload_n 1, 1) := by decide +kernel
theorem dX11_finds_16 : decode cX11_finds 16 = .ok (.iload_n 2, 1) := by decide +kernel
theorem dX11_finds_17 : decode cX11_finds 17 = .ok (.iastore, 1) := by decide +kernel
theorem dX11_finds_18 : decode cX11_finds 18 = .ok (.aload_n 0, 1) := by decide +kernel
theorem dX11_finds_19 : decode cX11_finds 19 = .ok (.getfield 176, 3) := by decide +kernel
theorem dX11_finds_22 : decode cX11_finds 22 = .ok (.aload_n 0, 1) := by decide +kernel
theorem dX11_finds_23 : decode cX11_finds 23 = .ok (.getfield 451, 3) := by decide +kernel
theorem dX11_finds_26 : decode cX11_finds 26 = .ok (.iload_n 1, 1) := by decide +kernel
theorem dX11_finds_27 : decode cX11_finds 27 = .ok (.iastore, 1) := by decide +kernel
theorem dX11_finds_28 : decode cX11_finds 28 = .ok (.aload_n 0, 1) := by decide +kernel
theorem dX11_finds_29 : decode cX11_finds 29 = .ok (.dup, 1) := by decide +kernel
theorem dX11_finds_30 : decode cX11_finds 30 = .ok (.getfield 451, 3) := by decide +kernel
theorem dX11_finds_33 : decode cX11_finds 33 = .ok (.iconst 1, 1) := by decide +kernel
theorem dX11_finds_34 : decode cX11_finds 34 = .ok (.iadd, 1) := by decide +kernel
theorem dX11_finds_35 : decode cX11_finds 35 = .ok (.putfield 451, 3) := by decide +kernel
theorem dX11_finds_38 : decode cX11_finds 38 = .ok (.return_, 1) := by decide +kernel
theorem dX11_findsIn_0 : decode cX11_findsIn 0 = .ok (.aload_n 0, 1) := by decide +kernel
theorem dX11_findsIn_1 : decode cX11_findsIn 1 = .ok (.getfield 164, 3) := by decide +kernel
theorem dX11_findsIn_4 : decode cX11_findsIn 4 = .ok (.iload_n 1, 1) := by decide +kernel
theorem dX11_findsIn_5 : decode cX11_findsIn 5 = .ok (.baload, 1) := by decide +kernel
theorem dX11_findsIn_6 : decode cX11_findsIn 6 = .ok (.ifCond .ne 12, 3) := by decide +kernel
theorem dX11_findsIn_9 : decode cX11_findsIn 9 = .ok (.aload_n 0, 1) := by decide +kernel
theorem dX11_findsIn_10 : decode cX11_findsIn 10 = .ok (.bipush 96, 2) := by decide +kernel
theorem dX11_findsIn_12 : decode cX11_findsIn 12 = .ok (.iload_n 1, 1) := by decide +kernel
theorem dX11_findsIn_13 : decode cX11_findsIn 13 = .ok (.iadd, 1) := by decide +kernel
theorem dX11_findsIn_14 : decode cX11_findsIn 14 = .ok (.iload_n 1, 1) := by decide +kernel
theorem dX11_findsIn_15 : decode cX11_findsIn 15 = .ok (.invokevirtual 454, 3) := by decide +kernel
theorem dX11_findsIn_18 : decode cX11_findsIn 18 = .ok (.iconst 0, 1) := by decide +kernel
theorem dX11_findsIn_19 : decode cX11_findsIn 19 = .ok (.istore_n 2, 1) := by decide +kernel
theorem dX11_findsIn_20 : decode cX11_findsIn 20 = .ok (.iload_n 2, 1) := by decide +kernel
theorem dX11_findsIn_21 : decode cX11_findsIn 21 = .ok (.bipush 96, 2) := by decide +kernel
theorem dX11_findsIn_23 : decode cX11_findsIn 23 = .ok (.if_icmp .ge 32, 3) := by decide +kernel
theorem dX11_findsIn_26 : decode cX11_findsIn 26 = .ok (.aload_n 0, 1) := by decide +kernel
theorem dX11_findsIn_27 : decode cX11_findsIn 27 = .ok (.getfield 167, 3) := by decide +kernel
theorem dX11_findsIn_30 : decode cX11_findsIn 30 = .ok (.bipush 96, 2) := by decide +kernel
theorem dX11_findsIn_32 : decode cX11_findsIn 32 = .ok (.iload_n 2, 1) := by decide +kernel
theorem dX11_findsIn_33 : decode cX11_findsIn 33 = .ok (.imul, 1) := by decide +kernel
theorem dX11_findsIn_34 : decode cX11_findsIn 34 = .ok (.iload_n 1, 1) := by decide +kernel
theorem dX11_findsIn_35 : decode cX11_findsIn 35 = .ok (.iadd, 1) := by decide +kernel
theorem dX11_findsIn_36 : decode cX11_findsIn 36 = .ok (.baload, 1) := by decide +kernel
theorem dX11_findsIn_37 : decode cX11_findsIn 37 = .ok (.ifCond .eq 12, 3) := by decide +kernel
theorem dX11_findsIn_40 : decode cX11_findsIn 40 = .ok (.aload_n 0, 1) := by decide +kernel
theorem dX11_findsIn_41 : decode cX11_findsIn 41 = .ok (.bipush 96, 2) := by decide +kernel
theorem dX11_findsIn_43 : decode cX11_findsIn 43 = .ok (.iload_n 2, 1) := by decide +kernel
theorem dX11_findsIn_44 : decode cX11_findsIn 44 = .ok (.iadd, 1) := by decide +kernel
theorem dX11_findsIn_45 : decode cX11_findsIn 45 = .ok (.iload_n 1, 1) := by decide +kernel
theorem dX11_findsIn_46 : decode cX11_findsIn 46 = .ok (.invokevirtual 454, 3) := by decide +kernel
theorem dX11_findsIn_49 : decode cX11_findsIn 49 = .ok (.iinc 2 1, 3) := by decide +kernel
theorem dX11_findsIn_52 : decode cX11_findsIn 52 = .ok (.goto (-32), 3) := by decide +kernel
theorem dX11_findsIn_55 : decode cX11_findsIn 55 = .ok (.return_, 1) := by decide +kernel
theorem dX11_findsOut_0 : decode cX11_findsOut 0 = .ok (.iconst 0, 1) := by decide +kernel
theorem dX11_findsOut_1 : decode cX11_findsOut 1 = .ok (.istore_n 2, 1) := by decide +kernel
theorem dX11_findsOut_2 : decode cX11_findsOut 2 = .ok (.iload_n 2, 1) := by decide +kernel
theorem dX11_findsOut_3 : decode cX11_findsOut 3 = .ok (.bipush 96, 2) := by decide +kernel
theorem dX11_findsOut_5 : decode cX11_findsOut 5 = .ok (.if_icmp .ge 41, 3) := by decide +kernel
theorem dX11_findsOut_8 : decode cX11_findsOut 8 = .ok (.aload_n 0, 1) := by decide +kernel
theorem dX11_findsOut_9 : decode cX11_findsOut 9 = .ok (.iload_n 1, 1) := by decide +kernel
theorem dX11_findsOut_10 : decode cX11_findsOut 10 = .ok (.iload_n 2, 1) := by decide +kernel
theorem dX11_findsOut_11 : decode cX11_findsOut 11 = .ok (.invokevirtual 404, 3) := by decide +kernel
theorem dX11_findsOut_14 : decode cX11_findsOut 14 = .ok (.ifCond .eq 26, 3) := by decide +kernel
theorem dX11_findsOut_17 : decode cX11_findsOut 17 = .ok (.aload_n 0, 1) := by decide +kernel
theorem dX11_findsOut_18 : decode cX11_findsOut 18 = .ok (.getfield 167, 3) := by decide +kernel
theorem dX11_findsOut_21 : decode cX11_findsOut 21 = .ok (.bipush 96, 2) := by decide +kernel
theorem dX11_findsOut_23 : decode cX11_findsOut 23 = .ok (.iload_n 1, 1) := by decide +kernel
theorem dX11_findsOut_24 : decode cX11_findsOut 24 = .ok (.imul, 1) := by decide +kernel
theorem dX11_findsOut_25 : decode cX11_findsOut 25 = .ok (.iload_n 2, 1) := by decide +kernel
theorem dX11_findsOut_26 : decode cX11_findsOut 26 = .ok (.iadd, 1) := by decide +kernel
theorem dX11_findsOut_27 : decode cX11_findsOut 27 = .ok (.baload, 1) := by decide +kernel
theorem dX11_findsOut_28 : decode cX11_findsOut 28 = .ok (.ifCond .ne 12, 3) := by decide +kernel
theorem dX11_findsOut_31 : decode cX11_findsOut 31 = .ok (.aload_n 0, 1) := by decide +kernel
theorem dX11_findsOut_32 : decode cX11_findsOut 32 = .ok (.iload_n 2, 1) := by decide +kernel
theorem dX11_findsOut_33 : decode cX11_findsOut 33 = .ok (.bipush 96, 2) := by decide +kernel
theorem dX11_findsOut_35 : decode cX11_findsOut 35 = .ok (.iload_n 1, 1) := by decide +kernel
theorem dX11_findsOut_36 : decode cX11_findsOut 36 = .ok (.iadd, 1) := by decide +kernel
theorem dX11_findsOut_37 : decode cX11_findsOut 37 = .ok (.invokevirtual 454, 3) := by decide +kernel
theorem dX11_findsOut_40 : decode cX11_findsOut 40 = .ok (.iinc 2 1, 3) := by decide +kernel
theorem dX11_findsOut_43 : decode cX11_findsOut 43 = .ok (.goto (-41), 3) := by decide +kernel
theorem dX11_findsOut_46 : decode cX11_findsOut 46 = .ok (.aload_n 0, 1) := by decide +kernel
theorem dX11_findsOut_47 : decode cX11_findsOut 47 = .ok (.getfield 164, 3) := by decide +kernel
theorem dX11_findsOut_50 : decode cX11_findsOut 50 = .ok (.iload_n 1, 1) := by decide +kernel
theorem dX11_findsOut_51 : decode cX11_findsOut 51 = .ok (.baload, 1) := by decide +kernel
theorem dX11_findsOut_52 : decode cX11_findsOut 52 = .ok (.ifCond .eq 12, 3) := by decide +kernel
theorem dX11_findsOut_55 : decode cX11_findsOut 55 = .ok (.aload_n 0, 1) := by decide +kernel
theorem dX11_findsOut_56 : decode cX11_findsOut 56 = .ok (.iload_n 1, 1) := by decide +kernel
theorem dX11_findsOut_57 : decode cX11_findsOut 57 = .ok (.bipush 96, 2) := by decide +kernel
theorem dX11_findsOut_59 : decode cX11_findsOut 59 = .ok (.iload_n 1, 1) := by decide +kernel
theorem dX11_findsOut_60 : decode cX11_findsOut 60 = .ok (.iadd, 1) := by decide +kernel
theorem dX11_findsOut_61 : decode cX11_findsOut 61 = .ok (.invokevirtual 454, 3) := by decide +kernel
theorem dX11_findsOut_64 : decode cX11_findsOut 64 = .ok (.return_, 1) := by decide +kernel
theorem dX11_oneMore_0 : decode cX11_oneMore 0 = .ok (.iconst 0, 1) := by decide +kernel
theorem dX11_oneMore_1 : decode cX11_oneMore 1 = .ok (.istore_n 1, 1) := by decide +kernel
theorem dX11_oneMore_2 : decode cX11_oneMore 2 = .ok (.iload_n 1, 1) := by decide +kernel
theorem dX11_oneMore_3 : decode cX11_oneMore 3 = .ok (.sipush 192, 3) := by decide +kernel
theorem dX11_oneMore_6 : decode cX11_oneMore 6 = .ok (.if_icmp .ge 16, 3) := by decide +kernel
theorem dX11_oneMore_9 : decode cX11_oneMore 9 = .ok (.aload_n 0, 1) := by decide +kernel
theorem dX11_oneMore_10 : decode cX11_oneMore 10 = .ok (.getfield 173, 3) := by decide +kernel
theorem dX11_oneMore_13 : decode cX11_oneMore 13 = .ok (.iload_n 1, 1) := by decide +kernel
theorem dX11_oneMore_14 : decode cX11_oneMore 14 = .ok (.iconst (-1), 1) := by decide +kernel
theorem dX11_oneMore_15 : decode cX11_oneMore 15 = .ok (.iastore, 1) := by decide +kernel
theorem dX11_oneMore_16 : decode cX11_oneMore 16 = .ok (.iinc 1 1, 3) := by decide +kernel
theorem dX11_oneMore_19 : decode cX11_oneMore 19 = .ok (.goto (-17), 3) := by decide +kernel
theorem dX11_oneMore_22 : decode cX11_oneMore 22 = .ok (.aload_n 0, 1) := by decide +kernel
theorem dX11_oneMore_23 : decode cX11_oneMore 23 = .ok (.iconst 0, 1) := by decide +kernel
theorem dX11_oneMore_24 : decode cX11_oneMore 24 = .ok (.putfield 451, 3) := by decide +kernel
theorem dX11_oneMore_27 : decode cX11_oneMore 27 = .ok (.iconst 0, 1) := by decide +kernel
theorem dX11_oneMore_28 : decode cX11_oneMore 28 = .ok (.istore_n 1, 1) := by decide +kernel
theorem dX11_oneMore_29 : decode cX11_oneMore 29 = .ok (.iload_n 1, 1) := by decide +kernel
theorem dX11_oneMore_30 : decode cX11_oneMore 30 = .ok (.bipush 96, 2) := by decide +kernel
theorem dX11_oneMore_32 : decode cX11_oneMore 32 = .ok (.if_icmp .ge 35, 3) := by decide +kernel
theorem dX11_oneMore_35 : decode cX11_oneMore 35 = .ok (.aload_n 0, 1) := by decide +kernel
theorem dX11_oneMore_36 : decode cX11_oneMore 36 = .ok (.bipush 96, 2) := by decide +kernel
theorem dX11_oneMore_38 : decode cX11_oneMore 38 = .ok (.iload_n 1, 1) := by decide +kernel
theorem dX11_oneMore_39 : decode cX11_oneMore 39 = .ok (.invokevirtual 404, 3) := by decide +kernel
theorem dX11_oneMore_42 : decode cX11_oneMore 42 = .ok (.ifCond .eq 19, 3) := by decide +kernel
theorem dX11_oneMore_45 : decode cX11_oneMore 45 = .ok (.aload_n 0, 1) := by decide +kernel
theorem dX11_oneMore_46 : decode cX11_oneMore 46 = .ok (.getfield 161, 3) := by decide +kernel
theorem dX11_oneMore_49 : decode cX11_oneMore 49 = .ok (.iload_n 1, 1) := by decide +kernel
theorem dX11_oneMore_50 : decode cX11_oneMore 50 = .ok (.baload, 1) := by decide +kernel
theorem dX11_oneMore_51 : decode cX11_oneMore 51 = .ok (.ifCond .ne 10, 3) := by decide +kernel
theorem dX11_oneMore_54 : decode cX11_oneMore 54 = .ok (.aload_n 0, 1) := by decide +kernel
theorem dX11_oneMore_55 : decode cX11_oneMore 55 = .ok (.iload_n 1, 1) := by decide +kernel
theorem dX11_oneMore_56 : decode cX11_oneMore 56 = .ok (.bipush (-2), 2) := by decide +kernel
theorem dX11_oneMore_58 : decode cX11_oneMore 58 = .ok (.invokevirtual 454, 3) := by decide +kernel
theorem dX11_oneMore_61 : decode cX11_oneMore 61 = .ok (.iinc 1 1, 3) := by decide +kernel
theorem dX11_oneMore_64 : decode cX11_oneMore 64 = .ok (.goto (-35), 3) := by decide +kernel
theorem dX11_oneMore_67 : decode cX11_oneMore 67 = .ok (.iconst 0, 1) := by decide +kernel
theorem dX11_oneMore_68 : decode cX11_oneMore 68 = .ok (.istore_n 1, 1) := by decide +kernel
theorem dX11_oneMore_69 : decode cX11_oneMore 69 = .ok (.iload_n 1, 1) := by decide +kernel
theorem dX11_oneMore_70 : decode cX11_oneMore 70 = .ok (.aload_n 0, 1) := by decide +kernel
theorem dX11_oneMore_71 : decode cX11_oneMore 71 = .ok (.getfield 451, 3) := by decide +kernel
theorem dX11_oneMore_74 : decode cX11_oneMore 74 = .ok (.if_icmp .ge 79, 3) := by decide +kernel
theorem dX11_oneMore_77 : decode cX11_oneMore 77 = .ok (.aload_n 0, 1) := by decide +kernel
theorem dX11_oneMore_78 : decode cX11_oneMore 78 = .ok (.getfield 176, 3) := by decide +kernel
theorem dX11_oneMore_81 : decode cX11_oneMore 81 = .ok (.iload_n 1, 1) := by decide +kernel
theorem dX11_oneMore_82 : decode cX11_oneMore 82 = .ok (.iaload, 1) := by decide +kernel
theorem dX11_oneMore_83 : decode cX11_oneMore 83 = .ok (.bipush 96, 2) := by decide +kernel
theorem dX11_oneMore_85 : decode cX11_oneMore 85 = .ok (.irem, 1) := by decide +kernel
theorem dX11_oneMore_86 : decode cX11_oneMore 86 = .ok (.istore_n 2, 1) := by decide +kernel
theorem dX11_oneMore_87 : decode cX11_oneMore 87 = .ok (.aload_n 0, 1) := by decide +kernel
theorem dX11_oneMore_88 : decode cX11_oneMore 88 = .ok (.getfield 176, 3) := by decide +kernel
theorem dX11_oneMore_91 : decode cX11_oneMore 91 = .ok (.iload_n 1, 1) := by decide +kernel
theorem dX11_oneMore_92 : decode cX11_oneMore 92 = .ok (.iaload, 1) := by decide +kernel
theorem dX11_oneMore_93 : decode cX11_oneMore 93 = .ok (.bipush 96, 2) := by decide +kernel
theorem dX11_oneMore_95 : decode cX11_oneMore 95 = .ok (.if_icmp .ge 11, 3) := by decide +kernel
theorem dX11_oneMore_98 : decode cX11_oneMore 98 = .ok (.aload_n 0, 1) := by decide +kernel
theorem dX11_oneMore_99 : decode cX11_oneMore 99 = .ok (.iload_n 2, 1) := by decide +kernel
theorem dX11_oneMore_100 : decode cX11_oneMore 100 = .ok (.invokevirtual 457, 3) := by decide +kernel
theorem dX11_oneMore_103 : decode cX11_oneMore 103 = .ok (.goto 44, 3) := by decide +kernel
theorem dX11_oneMore_106 : decode cX11_oneMore 106 = .ok (.aload_n 0, 1) := by decide +kernel
theorem dX11_oneMore_107 : decode cX11_oneMore 107 = .ok (.iload_n 2, 1) := by decide +kernel
theorem dX11_oneMore_108 : decode cX11_oneMore 108 = .ok (.invokevirtual 401, 3) := by decide +kernel
theorem dX11_oneMore_111 : decode cX11_oneMore 111 = .ok (.ifCond .eq 31, 3) := by decide +kernel
theorem dX11_oneMore_114 : decode cX11_oneMore 114 = .ok (.aload_n 0, 1) := by decide +kernel
theorem dX11_oneMore_115 : decode cX11_oneMore 115 = .ok (.getfield 170, 3) := by decide +kernel
theorem dX11_oneMore_118 : decode cX11_oneMore 118 = .ok (.iload_n 2, 1) := by decide +kernel
theorem dX11_oneMore_119 : decode cX11_oneMore 119 = .ok (.baload, 1) := by decide +kernel
theorem dX11_oneMore_120 : decode cX11_oneMore 120 = .ok (.ifCond .ne 22, 3) := by decide +kernel
theorem dX11_oneMore_123 : decode cX11_oneMore 123 = .ok (.aload_n 0, 1) := by decide +kernel
theorem dX11_oneMore_124 : decode cX11_oneMore 124 = .ok (.getfield 170, 3) := by decide +kernel
theorem dX11_oneMore_127 : decode cX11_oneMore 127 = .ok (.iload_n 2, 1) := by decide +kernel
theorem dX11_oneMore_128 : decode cX11_oneMore 128 = .ok (.iconst 1, 1) := by decide +kernel
theorem dX11_oneMore_129 : decode cX11_oneMore 129 = .ok (.bastore, 1) := by decide +kernel
theorem dX11_oneMore_130 : decode cX11_oneMore 130 = .ok (.aload_n 0, 1) := by decide +kernel
theorem dX11_oneMore_131 : decode cX11_oneMore 131 = .ok (.aload_n 0, 1) := by decide +kernel
theorem dX11_oneMore_132 : decode cX11_oneMore 132 = .ok (.getfield 176, 3) := by decide +kernel
theorem dX11_oneMore_135 : decode cX11_oneMore 135 = .ok (.iload_n 1, 1) := by decide +kernel
theorem dX11_oneMore_136 : decode cX11_oneMore 136 = .ok (.iaload, 1) := by decide +kernel
theorem dX11_oneMore_137 : decode cX11_oneMore 137 = .ok (.invokevirtual 460, 3) := by decide +kernel
theorem dX11_oneMore_140 : decode cX11_oneMore 140 = .ok (.iconst 1, 1) := by decide +kernel
theorem dX11_oneMore_141 : decode cX11_oneMore 141 = .ok (.ireturn, 1) := by decide +kernel
theorem dX11_oneMore_142 : decode cX11_oneMore 142 = .ok (.aload_n 0, 1) := by decide +kernel
theorem dX11_oneMore_143 : decode cX11_oneMore 143 = .ok (.iload_n 2, 1) := by decide +kernel
theorem dX11_oneMore_144 : decode cX11_oneMore 144 = .ok (.invokevirtual 463, 3) := by decide +kernel
theorem dX11_oneMore_147 : decode cX11_oneMore 147 = .ok (.iinc 1 1, 3) := by decide +kernel
theorem dX11_oneMore_150 : decode cX11_oneMore 150 = .ok (.goto (-81), 3) := by decide +kernel
theorem dX11_oneMore_153 : decode cX11_oneMore 153 = .ok (.iconst 0, 1) := by decide +kernel
theorem dX11_oneMore_154 : decode cX11_oneMore 154 = .ok (.ireturn, 1) := by decide +kernel
theorem dX11_turns_0 : decode cX11_turns 0 = .ok (.iload_n 1, 1) := by decide +kernel
theorem dX11_turns_1 : decode cX11_turns 1 = .ok (.istore_n 2, 1) := by decide +kernel
theorem dX11_turns_2 : decode cX11_turns 2 = .ok (.aload_n 0, 1) := by decide +kernel
theorem dX11_turns_3 : decode cX11_turns 3 = .ok (.getfield 173, 3) := by decide +kernel
theorem dX11_turns_6 : decode cX11_turns 6 = .ok (.iload_n 2, 1) := by decide +kernel
theorem dX11_turns_7 : decode cX11_turns 7 = .ok (.iaload, 1) := by decide +kernel
theorem dX11_turns_8 : decode cX11_turns 8 = .ok (.bipush (-2), 2) := by decide +kernel
theorem dX11_turns_10 : decode cX11_turns 10 = .ok (.if_icmp .eq 88, 3) := by decide +kernel
theorem dX11_turns_13 : decode cX11_turns 13 = .ok (.aload_n 0, 1) := by decide +kernel
theorem dX11_turns_14 : decode cX11_turns 14 = .ok (.getfield 173, 3) := by decide +kernel
theorem dX11_turns_17 : decode cX11_turns 17 = .ok (.iload_n 2, 1) := by decide +kernel
theorem dX11_turns_18 : decode cX11_turns 18 = .ok (.iaload, 1) := by decide +kernel
theorem dX11_turns_19 : decode cX11_turns 19 = .ok (.istore_n 3, 1) := by decide +kernel
theorem dX11_turns_20 : decode cX11_turns 20 = .ok (.iload_n 3, 1) := by decide +kernel
theorem dX11_turns_21 : decode cX11_turns 21 = .ok (.bipush 96, 2) := by decide +kernel
theorem dX11_turns_23 : decode cX11_turns 23 = .ok (.irem, 1) := by decide +kernel
theorem dX11_turns_24 : decode cX11_turns 24 = .ok (.iload_n 2, 1) := by decide +kernel
theorem dX11_turns_25 : decode cX11_turns 25 = .ok (.bipush 96, 2) := by decide +kernel
theorem dX11_turns_27 : decode cX11_turns 27 = .ok (.irem, 1) := by decide +kernel
theorem dX11_turns_28 : decode cX11_turns 28 = .ok (.if_icmp .ne 26, 3) := by decide +kernel
theorem dX11_turns_31 : decode cX11_turns 31 = .ok (.aload_n 0, 1) := by decide +kernel
theorem dX11_turns_32 : decode cX11_turns 32 = .ok (.getfield 164, 3) := by decide +kernel
theorem dX11_turns_35 : decode cX11_turns 35 = .ok (.iload_n 2, 1) := by decide +kernel
theorem dX11_turns_36 : decode cX11_turns 36 = .ok (.bipush 96, 2) := by decide +kernel
theorem dX11_turns_38 : decode cX11_turns 38 = .ok (.irem, 1) := by decide +kernel
theorem dX11_turns_39 : decode cX11_turns 39 = .ok (.iload_n 2, 1) := by decide +kernel
theorem dX11_turns_40 : decode cX11_turns 40 = .ok (.bipush 96, 2) := by decide +kernel
theorem dX11_turns_42 : decode cX11_turns 42 = .ok (.if_icmp .lt 7, 3) := by decide +kernel
theorem dX11_turns_45 : decode cX11_turns 45 = .ok (.iconst 1, 1) := by decide +kernel
theorem dX11_turns_46 : decode cX11_turns 46 = .ok (.goto 4, 3) := by decide +kernel
theorem dX11_turns_49 : decode cX11_turns 49 = .ok (.iconst 0, 1) := by decide +kernel
theorem dX11_turns_50 : decode cX11_turns 50 = .ok (.bastore, 1) := by decide +kernel
theorem dX11_turns_51 : decode cX11_turns 51 = .ok (.goto 42, 3) := by decide +kernel
theorem dX11_turns_54 : decode cX11_turns 54 = .ok (.iload_n 2, 1) := by decide +kernel
theorem dX11_turns_55 : decode cX11_turns 55 = .ok (.bipush 96, 2) := by decide +kernel
theorem dX11_turns_57 : decode cX11_turns 57 = .ok (.if_icmp .ge 21, 3) := by decide +kernel
theorem dX11_turns_60 : decode cX11_turns 60 = .ok (.aload_n 0, 1) := by decide +kernel
theorem dX11_turns_61 : decode cX11_turns 61 = .ok (.getfield 167, 3) := by decide +kernel
theorem dX11_turns_64 : decode cX11_turns 64 = .ok (.bipush 96, 2) := by decide +kernel
theorem dX11_turns_66 : decode cX11_turns 66 = .ok (.iload_n 3, 1) := by decide +kernel
theorem dX11_turns_67 : decode cX11_turns 67 = .ok (.bipush 96, 2) := by decide +kernel
theorem dX11_turns_69 : decode cX11_turns 69 = .ok (.isub, 1) := by decide +kernel
theorem dX11_turns_70 : decode cX11_turns 70 = .ok (.imul, 1) := by decide +kernel
theorem dX11_turns_71 : decode cX11_turns 71 = .ok (.iload_n 2, 1) := by decide +kernel
theorem dX11_turns_72 : decode cX11_turns 72 = .ok (.iadd, 1) := by decide +kernel
theorem dX11_turns_73 : decode cX11_turns 73 = .ok (.iconst 1, 1) := by decide +kernel
theorem dX11_turns_74 : decode cX11_turns 74 = .ok (.bastore, 1) := by decide +kernel
theorem dX11_turns_75 : decode cX11_turns 75 = .ok (.goto 18, 3) := by decide +kernel
theorem dX11_turns_78 : decode cX11_turns 78 = .ok (.aload_n 0, 1) := by decide +kernel
theorem dX11_turns_79 : decode cX11_turns 79 = .ok (.getfield 167, 3) := by decide +kernel
theorem dX11_turns_82 : decode cX11_turns 82 = .ok (.bipush 96, 2) := by decide +kernel
theorem dX11_turns_84 : decode cX11_turns 84 = .ok (.iload_n 2, 1) := by decide +kernel
theorem dX11_turns_85 : decode cX11_turns 85 = .ok (.bipush 96, 2) := by decide +kernel
theorem dX11_turns_87 : decode cX11_turns 87 = .ok (.isub, 1) := by decide +kernel
theorem dX11_turns_88 : decode cX11_turns 88 = .ok (.imul, 1) := by decide +kernel
theorem dX11_turns_89 : decode cX11_turns 89 = .ok (.iload_n 3, 1) := by decide +kernel
theorem dX11_turns_90 : decode cX11_turns 90 = .ok (.iadd, 1) := by decide +kernel
theorem dX11_turns_91 : decode cX11_turns 91 = .ok (.iconst 0, 1) := by decide +kernel
theorem dX11_turns_92 : decode cX11_turns 92 = .ok (.bastore, 1) := by decide +kernel
theorem dX11_turns_93 : decode cX11_turns 93 = .ok (.iload_n 3, 1) := by decide +kernel
theorem dX11_turns_94 : decode cX11_turns 94 = .ok (.istore_n 2, 1) := by decide +kernel
theorem dX11_turns_95 : decode cX11_turns 95 = .ok (.goto (-93), 3) := by decide +kernel
theorem dX11_turns_98 : decode cX11_turns 98 = .ok (.aload_n 0, 1) := by decide +kernel
theorem dX11_turns_99 : decode cX11_turns 99 = .ok (.getfield 161, 3) := by decide +kernel
theorem dX11_turns_102 : decode cX11_turns 102 = .ok (.iload_n 2, 1) := by decide +kernel
theorem dX11_turns_103 : decode cX11_turns 103 = .ok (.iconst 1, 1) := by decide +kernel
theorem dX11_turns_104 : decode cX11_turns 104 = .ok (.bastore, 1) := by decide +kernel
theorem dX11_turns_105 : decode cX11_turns 105 = .ok (.return_, 1) := by decide +kernel
theorem dX11_fords_0 : decode cX11_fords 0 = .ok (.aload_n 0, 1) := by decide +kernel
theorem dX11_fords_1 : decode cX11_fords 1 = .ok (.sipush 255, 3) := by decide +kernel
theorem dX11_fords_4 : decode cX11_fords 4 = .ok (.invokevirtual 448, 3) := by decide +kernel
theorem dX11_fords_7 : decode cX11_fords 7 = .ok (.ifCond .ne 5, 3) := by decide +kernel
theorem dX11_fords_10 : decode cX11_fords 10 = .ok (.iconst 0, 1) := by decide +kernel
theorem dX11_fords_11 : decode cX11_fords 11 = .ok (.ireturn, 1) := by decide +kernel
theorem dX11_fords_12 : decode cX11_fords 12 = .ok (.aload_n 0, 1) := by decide +kernel
theorem dX11_fords_13 : decode cX11_fords 13 = .ok (.bipush 96, 2) := by decide +kernel
theorem dX11_fords_15 : decode cX11_fords 15 = .ok (.invokevirtual 401, 3) := by decide +kernel
theorem dX11_fords_18 : decode cX11_fords 18 = .ok (.ifCond .eq 6, 3) := by decide +kernel
theorem dX11_fords_21 : decode cX11_fords 21 = .ok (.bipush (-2), 2) := by decide +kernel
theorem dX11_fords_23 : decode cX11_fords 23 = .ok (.ireturn, 1) := by decide +kernel
theorem dX11_fords_24 : decode cX11_fords 24 = .ok (.iconst 0, 1) := by decide +kernel
theorem dX11_fords_25 : decode cX11_fords 25 = .ok (.istore_n 1, 1) := by decide +kernel
theorem dX11_fords_26 : decode cX11_fords 26 = .ok (.iload_n 1, 1) := by decide +kernel
theorem dX11_fords_27 : decode cX11_fords 27 = .ok (.bipush 96, 2) := by decide +kernel
theorem dX11_fords_29 : decode cX11_fords 29 = .ok (.if_icmp .ge 30, 3) := by decide +kernel
theorem dX11_fords_32 : decode cX11_fords 32 = .ok (.aload_n 0, 1) := by decide +kernel
theorem dX11_fords_33 : decode cX11_fords 33 = .ok (.getfield 161, 3) := by decide +kernel
theorem dX11_fords_36 : decode cX11_fords 36 = .ok (.iload_n 1, 1) := by decide +kernel
theorem dX11_fords_37 : decode cX11_fords 37 = .ok (.iconst 0, 1) := by decide +kernel
theorem dX11_fords_38 : decode cX11_fords 38 = .ok (.bastore, 1) := by decide +kernel
theorem dX11_fords_39 : decode cX11_fords 39 = .ok (.aload_n 0, 1) := by decide +kernel
theorem dX11_fords_40 : decode cX11_fords 40 = .ok (.getfield 164, 3) := by decide +kernel
theorem dX11_fords_43 : decode cX11_fords 43 = .ok (.iload_n 1, 1) := by decide +kernel
theorem dX11_fords_44 : decode cX11_fords 44 = .ok (.iconst 0, 1) := by decide +kernel
theorem dX11_fords_45 : decode cX11_fords 45 = .ok (.bastore, 1) := by decide +kernel
theorem dX11_fords_46 : decode cX11_fords 46 = .ok (.aload_n 0, 1) := by decide +kernel
theorem dX11_fords_47 : decode cX11_fords 47 = .ok (.getfield 170, 3) := by decide +kernel
theorem dX11_fords_50 : decode cX11_fords 50 = .ok (.iload_n 1, 1) := by decide +kernel
theorem dX11_fords_51 : decode cX11_fords 51 = .ok (.iconst 0, 1) := by decide +kernel
theorem dX11_fords_52 : decode cX11_fords 52 = .ok (.bastore, 1) := by decide +kernel
theorem dX11_fords_53 : decode cX11_fords 53 = .ok (.iinc 1 1, 3) := by decide +kernel
theorem dX11_fords_56 : decode cX11_fords 56 = .ok (.goto (-30), 3) := by decide +kernel
theorem dX11_fords_59 : decode cX11_fords 59 = .ok (.iconst 0, 1) := by decide +kernel
theorem dX11_fords_60 : decode cX11_fords 60 = .ok (.istore_n 1, 1) := by decide +kernel
theorem dX11_fords_61 : decode cX11_fords 61 = .ok (.iload_n 1, 1) := by decide +kernel
theorem dX11_fords_62 : decode cX11_fords 62 = .ok (.sipush 9216, 3) := by decide +kernel
theorem dX11_fords_65 : decode cX11_fords 65 = .ok (.if_icmp .ge 16, 3) := by decide +kernel
theorem dX11_fords_68 : decode cX11_fords 68 = .ok (.aload_n 0, 1) := by decide +kernel
theorem dX11_fords_69 : decode cX11_fords 69 = .ok (.getfield 167, 3) := by decide +kernel
theorem dX11_fords_72 : decode cX11_fords 72 = .ok (.iload_n 1, 1) := by decide +kernel
theorem dX11_fords_73 : decode cX11_fords 73 = .ok (.iconst 0, 1) := by decide +kernel
theorem dX11_fords_74 : decode cX11_fords 74 = .ok (.bastore, 1) := by decide +kernel
theorem dX11_fords_75 : decode cX11_fords 75 = .ok (.iinc 1 1, 3) := by decide +kernel
theorem dX11_fords_78 : decode cX11_fords 78 = .ok (.goto (-17), 3) := by decide +kernel
theorem dX11_fords_81 : decode cX11_fords 81 = .ok (.iconst 0, 1) := by decide +kernel
theorem dX11_fords_82 : decode cX11_fords 82 = .ok (.istore_n 1, 1) := by decide +kernel
theorem dX11_fords_83 : decode cX11_fords 83 = .ok (.aload_n 0, 1) := by decide +kernel
theorem dX11_fords_84 : decode cX11_fords 84 = .ok (.invokevirtual 466, 3) := by decide +kernel
theorem dX11_fords_87 : decode cX11_fords 87 = .ok (.ifCond .eq 9, 3) := by decide +kernel
theorem dX11_fords_90 : decode cX11_fords 90 = .ok (.iinc 1 1, 3) := by decide +kernel
theorem dX11_fords_93 : decode cX11_fords 93 = .ok (.goto (-10), 3) := by decide +kernel
theorem dX11_fords_96 : decode cX11_fords 96 = .ok (.iload_n 1, 1) := by decide +kernel
theorem dX11_fords_97 : decode cX11_fords 97 = .ok (.ireturn, 1) := by decide +kernel
theorem dX11_tell__0 : decode cX11_tell_ 0 = .ok (.aload_n 0, 1) := by decide +kernel
theorem dX11_tell__1 : decode cX11_tell_ 1 = .ok (.getfield 290, 3) := by decide +kernel
theorem dX11_tell__4 : decode cX11_tell_ 4 = .ok (.bipush 20, 2) := by decide +kernel
theorem dX11_tell__6 : decode cX11_tell_ 6 = .ok (.if_icmp .eq 22, 3) := by decide +kernel
theorem dX11_tell__9 : decode cX11_tell_ 9 = .ok (.aload_n 0, 1) := by decide +kernel
theorem dX11_tell__10 : decode cX11_tell_ 10 = .ok (.iload_n 1, 1) := by decide +kernel
theorem dX11_tell__11 : decode cX11_tell_ 11 = .ok (.iload_n 2, 1) := by decide +kernel
theorem dX11_tell__12 : decode cX11_tell_ 12 = .ok (.invokevirtual 369, 3) := by decide +kernel
theorem dX11_tell__15 : decode cX11_tell_ 15 = .ok (.ifCond .eq 13, 3) := by decide +kernel
theorem dX11_tell__18 : decode cX11_tell_ 18 = .ok (.iload_n 3, 1) := by decide +kernel
theorem dX11_tell__19 : decode cX11_tell_ 19 = .ok (.iconst 0, 1) := by decide +kernel
theorem dX11_tell__20 : decode cX11_tell_ 20 = .ok (.bipush 99, 2) := by decide +kernel
theorem dX11_tell__22 : decode cX11_tell_ 22 = .ok (.invokestatic 345, 3) := by decide +kernel
theorem dX11_tell__25 : decode cX11_tell_ 25 = .ok (.ifCond .ne 5, 3) := by decide +kernel
theorem dX11_tell__28 : decode cX11_tell_ 28 = .ok (.iconst (-1), 1) := by decide +kernel
theorem dX11_tell__29 : decode cX11_tell_ 29 = .ok (.ireturn, 1) := by decide +kernel
theorem dX11_tell__30 : decode cX11_tell_ 30 = .ok (.aload_n 0, 1) := by decide +kernel
theorem dX11_tell__31 : decode cX11_tell_ 31 = .ok (.getfield 179, 3) := by decide +kernel
theorem dX11_tell__34 : decode cX11_tell_ 34 = .ok (.aload_n 0, 1) := by decide +kernel
theorem dX11_tell__35 : decode cX11_tell_ 35 = .ok (.getfield 290, 3) := by decide +kernel
theorem dX11_tell__38 : decode cX11_tell_ 38 = .ok (.bipush 12, 2) := by decide +kernel
theorem dX11_tell__40 : decode cX11_tell_ 40 = .ok (.iload_n 2, 1) := by decide +kernel
theorem dX11_tell__41 : decode cX11_tell_ 41 = .ok (.imul, 1) := by decide +kernel
theorem dX11_tell__42 : decode cX11_tell_ 42 = .ok (.iload_n 1, 1) := by decide +kernel
theorem dX11_tell__43 : decode cX11_tell_ 43 = .ok (.iadd, 1) := by decide +kernel
theorem dX11_tell__44 : decode cX11_tell_ 44 = .ok (.iastore, 1) := by decide +kernel
theorem dX11_tell__45 : decode cX11_tell_ 45 = .ok (.aload_n 0, 1) := by decide +kernel
theorem dX11_tell__46 : decode cX11_tell_ 46 = .ok (.getfield 182, 3) := by decide +kernel
theorem dX11_tell__49 : decode cX11_tell_ 49 = .ok (.aload_n 0, 1) := by decide +kernel
theorem dX11_tell__50 : decode cX11_tell_ 50 = .ok (.getfield 290, 3) := by decide +kernel
theorem dX11_tell__53 : decode cX11_tell_ 53 = .ok (.iload_n 3, 1) := by decide +kernel
theorem dX11_tell__54 : decode cX11_tell_ 54 = .ok (.iastore, 1) := by decide +kernel
theorem dX11_tell__55 : decode cX11_tell_ 55 = .ok (.aload_n 0, 1) := by decide +kernel
theorem dX11_tell__56 : decode cX11_tell_ 56 = .ok (.dup, 1) := by decide +kernel
theorem dX11_tell__57 : decode cX11_tell_ 57 = .ok (.getfield 290, 3) := by decide +kernel
theorem dX11_tell__60 : decode cX11_tell_ 60 = .ok (.iconst 1, 1) := by decide +kernel
theorem dX11_tell__61 : decode cX11_tell_ 61 = .ok (.iadd, 1) := by decide +kernel
theorem dX11_tell__62 : decode cX11_tell_ 62 = .ok (.putfield 290, 3) := by decide +kernel
theorem dX11_tell__65 : decode cX11_tell_ 65 = .ok (.aload_n 0, 1) := by decide +kernel
theorem dX11_tell__66 : decode cX11_tell_ 66 = .ok (.getfield 290, 3) := by decide +kernel
theorem dX11_tell__69 : decode cX11_tell_ 69 = .ok (.iconst 1, 1) := by decide +kernel
theorem dX11_tell__70 : decode cX11_tell_ 70 = .ok (.isub, 1) := by decide +kernel
theorem dX11_tell__71 : decode cX11_tell_ 71 = .ok (.ireturn, 1) := by decide +kernel
theorem dX11_forget_0 : decode cX11_forget 0 = .ok (.aload_n 0, 1) := by decide +kernel
theorem dX11_forget_1 : decode cX11_forget 1 = .ok (.getfield 290, 3) := by decide +kernel
theorem dX11_forget_4 : decode cX11_forget 4 = .ok (.istore_n 1, 1) := by decide +kernel
theorem dX11_forget_5 : decode cX11_forget 5 = .ok (.aload_n 0, 1) := by decide +kernel
theorem dX11_forget_6 : decode cX11_forget 6 = .ok (.iconst 0, 1) := by decide +kernel
theorem dX11_forget_7 : decode cX11_forget 7 = .ok (.putfield 290, 3) := by decide +kernel
theorem dX11_forget_10 : decode cX11_forget 10 = .ok (.iload_n 1, 1) := by decide +kernel
theorem dX11_forget_11 : decode cX11_forget 11 = .ok (.ireturn, 1) := by decide +kernel
theorem dX11_isSo_0 : decode cX11_isSo 0 = .ok (.aload_n 0, 1) := by decide +kernel
theorem dX11_isSo_1 : decode cX11_isSo 1 = .ok (.invokevirtual 373, 3) := by decide +kernel
theorem dX11_isSo_4 : decode cX11_isSo 4 = .ok (.aload_n 0, 1) := by decide +kernel
theorem dX11_isSo_5 : decode cX11_isSo 5 = .ok (.iload_n 1, 1) := by decide +kernel
theorem dX11_isSo_6 : decode cX11_isSo 6 = .ok (.iload_n 2, 1) := by decide +kernel
theorem dX11_isSo_7 : decode cX11_isSo 7 = .ok (.iload_n 3, 1) := by decide +kernel
theorem dX11_isSo_8 : decode cX11_isSo 8 = .ok (.invokevirtual 391, 3) := by decide +kernel
theorem dX11_isSo_11 : decode cX11_isSo 11 = .ok (.pop, 1) := by decide +kernel
theorem dX11_isSo_12 : decode cX11_isSo 12 = .ok (.iconst 0, 1) := by decide +kernel
theorem dX11_isSo_13 : decode cX11_isSo 13 = .ok (.istore 6, 2) := by decide +kernel
theorem dX11_isSo_15 : decode cX11_isSo 15 = .ok (.iload 6, 2) := by decide +kernel
theorem dX11_isSo_17 : decode cX11_isSo 17 = .ok (.iload 5, 2) := by decide +kernel
theorem dX11_isSo_19 : decode cX11_isSo 19 = .ok (.if_icmp .ge 13, 3) := by decide +kernel
theorem dX11_isSo_22 : decode cX11_isSo 22 = .ok (.aload_n 0, 1) := by decide +kernel
theorem dX11_isSo_23 : decode cX11_isSo 23 = .ok (.invokevirtual 397, 3) := by decide +kernel
theorem dX11_isSo_26 : decode cX11_isSo 26 = .ok (.iinc 6 1, 3) := by decide +kernel
theorem dX11_isSo_29 : decode cX11_isSo 29 = .ok (.goto (-14), 3) := by decide +kernel
theorem dX11_isSo_32 : decode cX11_isSo 32 = .ok (.iconst 0, 1) := by decide +kernel
theorem dX11_isSo_33 : decode cX11_isSo 33 = .ok (.istore 6, 2) := by decide +kernel
theorem dX11_isSo_35 : decode cX11_isSo 35 = .ok (.iload 6, 2) := by decide +kernel
theorem dX11_isSo_37 : decode cX11_isSo 37 = .ok (.iload 4, 2) := by decide +kernel
theorem dX11_isSo_39 : decode cX11_isSo 39 = .ok (.if_icmp .ge 33, 3) := by decide +kernel
theorem dX11_isSo_42 : decode cX11_isSo 42 = .ok (.aload_n 0, 1) := by decide +kernel
theorem dX11_isSo_43 : decode cX11_isSo 43 = .ok (.getfield 128, 3) := by decide +kernel
theorem dX11_isSo_46 : decode cX11_isSo 46 = .ok (.aload_n 0, 1) := by decide +kernel
theorem dX11_isSo_47 : decode cX11_isSo 47 = .ok (.getfield 179, 3) := by decide +kernel
theorem dX11_isSo_50 : decode cX11_isSo 50 = .ok (.iload 6, 2) := by decide +kernel
theorem dX11_isSo_52 : decode cX11_isSo 52 = .ok (.iaload, 1) := by decide +kernel
theorem dX11_isSo_53 : decode cX11_isSo 53 = .ok (.iaload, 1) := by decide +kernel
theorem dX11_isSo_54 : decode cX11_isSo 54 = .ok (.aload_n 0, 1) := by decide +kernel
theorem dX11_isSo_55 : decode cX11_isSo 55 = .ok (.getfield 182, 3) := by decide +kernel
theorem dX11_isSo_58 : decode cX11_isSo 58 = .ok (.iload 6, 2) := by decide +kernel
theorem dX11_isSo_60 : decode cX11_isSo 60 = .ok (.iaload, 1) := by decide +kernel
theorem dX11_isSo_61 : decode cX11_isSo 61 = .ok (.if_icmp .eq 5, 3) := by decide +kernel
theorem dX11_isSo_64 : decode cX11_isSo 64 = .ok (.iconst 0, 1) := by decide +kernel
theorem dX11_isSo_65 : decode cX11_isSo 65 = .ok (.ireturn, 1) := by decide +kernel
theorem dX11_isSo_66 : decode cX11_isSo 66 = .ok (.iinc 6 1, 3) := by decide +kernel
theorem dX11_isSo_69 : decode cX11_isSo 69 = .ok (.goto (-34), 3) := by decide +kernel
theorem dX11_isSo_72 : decode cX11_isSo 72 = .ok (.iconst 1, 1) := by decide +kernel
theorem dX11_isSo_73 : decode cX11_isSo 73 = .ok (.ireturn, 1) := by decide +kernel
theorem dX11_fits_0 : decode cX11_fits 0 = .ok (.aload_n 0, 1) := by decide +kernel
theorem dX11_fits_1 : decode cX11_fits 1 = .ok (.iload_n 1, 1) := by decide +kernel
theorem dX11_fits_2 : decode cX11_fits 2 = .ok (.invokevirtual 388, 3) := by decide +kernel
theorem dX11_fits_5 : decode cX11_fits 5 = .ok (.ifCond .eq 31, 3) := by decide +kernel
theorem dX11_fits_8 : decode cX11_fits 8 = .ok (.iload_n 2, 1) := by decide +kernel
theorem dX11_fits_9 : decode cX11_fits 9 = .ok (.iconst 0, 1) := by decide +kernel
theorem dX11_fits_10 : decode cX11_fits 10 = .ok (.aload_n 0, 1) := by decide +kernel
theorem dX11_fits_11 : decode cX11_fits 11 = .ok (.getfield 290, 3) := by decide +kernel
theorem dX11_fits_14 : decode cX11_fits 14 = .ok (.invokestatic 345, 3) := by decide +kernel
theorem dX11_fits_17 : decode cX11_fits 17 = .ok (.ifCond .eq 19, 3) := by decide +kernel
theorem dX11_fits_20 : decode cX11_fits 20 = .ok (.iload_n 3, 1) := by decide +kernel
theorem dX11_fits_21 : decode cX11_fits 21 = .ok (.iconst 0, 1) := by decide +kernel
theorem dX11_fits_22 : decode cX11_fits 22 = .ok (.bipush 60, 2) := by decide +kernel
theorem dX11_fits_24 : decode cX11_fits 24 = .ok (.invokestatic 345, 3) := by decide +kernel
theorem dX11_fits_27 : decode cX11_fits 27 = .ok (.ifCond .eq 9, 3) := by decide +kernel
theorem dX11_fits_30 : decode cX11_fits 30 = .ok (.iload 4, 2) := by decide +kernel
theorem dX11_fits_32 : decode cX11_fits 32 = .ok (.iconst (-1), 1) := by decide +kernel
theorem dX11_fits_33 : decode cX11_fits 33 = .ok (.if_icmp .ge 5, 3) := by decide +kernel
theorem dX11_fits_36 : decode cX11_fits 36 = .ok (.iconst (-1), 1) := by decide +kernel
theorem dX11_fits_37 : decode cX11_fits 37 = .ok (.ireturn, 1) := by decide +kernel
theorem dX11_fits_38 : decode cX11_fits 38 = .ok (.iconst 0, 1) := by decide +kernel
theorem dX11_fits_39 : decode cX11_fits 39 = .ok (.istore 5, 2) := by decide +kernel
theorem dX11_fits_41 : decode cX11_fits 41 = .ok (.iconst 0, 1) := by decide +kernel
theorem dX11_fits_42 : decode cX11_fits 42 = .ok (.istore 6, 2) := by decide +kernel
theorem dX11_fits_44 : decode cX11_fits 44 = .ok (.iload 6, 2) := by decide +kernel
theorem dX11_fits_46 : decode cX11_fits 46 = .ok (.aload_n 0, 1) := by decide +kernel
theorem dX11_fits_47 : decode cX11_fits 47 = .ok (.getfield 46, 3) := by decide +kernel
theorem dX11_fits_50 : decode cX11_fits 50 = .ok (.aload_n 0, 1) := by decide +kernel
theorem dX11_fits_51 : decode cX11_fits 51 = .ok (.getfield 269, 3) := by decide +kernel
theorem dX11_fits_54 : decode cX11_fits 54 = .ok (.iaload, 1) := by decide +kernel
theorem dX11_fits_55 : decode cX11_fits 55 = .ok (.if_icmp .ge 68, 3) := by decide +kernel
theorem dX11_fits_58 : decode cX11_fits 58 = .ok (.iconst 0, 1) := by decide +kernel
theorem dX11_fits_59 : decode cX11_fits 59 = .ok (.istore 7, 2) := by decide +kernel
theorem dX11_fits_61 : decode cX11_fits 61 = .ok (.iload 7, 2) := by decide +kernel
theorem dX11_fits_63 : decode cX11_fits 63 = .ok (.aload_n 0, 1) := by decide +kernel
theorem dX11_fits_64 : decode cX11_fits 64 = .ok (.getfield 43, 3) := by decide +kernel
theorem dX11_fits_67 : decode cX11_fits 67 = .ok (.aload_n 0, 1) := by decide +kernel
theorem dX11_fits_68 : decode cX11_fits 68 = .ok (.getfield 269, 3) := by decide +kernel
theorem dX11_fits_71 : decode cX11_fits 71 = .ok (.iaload, 1) := by decide +kernel
theorem dX11_fits_72 : decode cX11_fits 72 = .ok (.if_icmp .ge 45, 3) := by decide +kernel
theorem dX11_fits_75 : decode cX11_fits 75 = .ok (.aload_n 0, 1) := by decide +kernel
theorem dX11_fits_76 : decode cX11_fits 76 = .ok (.iload_n 1, 1) := by decide +kernel
theorem dX11_fits_77 : decode cX11_fits 77 = .ok (.iload 7, 2) := by decide +kernel
theorem dX11_fits_79 : decode cX11_fits 79 = .ok (.iload 6, 2) := by decide +kernel
theorem dX11_fits_81 : decode cX11_fits 81 = .ok (.iload_n 2, 1) := by decide +kernel
theorem dX11_fits_82 : decode cX11_fits 82 = .ok (.iload_n 3, 1) := by decide +kernel
theorem dX11_fits_83 : decode cX11_fits 83 = .ok (.invokevirtual 469, 3) := by decide +kernel
theorem dX11_fits_86 : decode cX11_fits 86 = .ok (.ifCond .ne 6, 3) := by decide +kernel
theorem dX11_fits_89 : decode cX11_fits 89 = .ok (.goto 22, 3) := by decide +kernel
theorem dX11_fits_92 : decode cX11_fits 92 = .ok (.iload 5, 2) := by decide +kernel
theorem dX11_fits_94 : decode cX11_fits 94 = .ok (.iload 4, 2) := by decide +kernel
theorem dX11_fits_96 : decode cX11_fits 96 = .ok (.if_icmp .ne 12, 3) := by decide +kernel
theorem dX11_fits_99 : decode cX11_fits 99 = .ok (.bipush 100, 2) := by decide +kernel
theorem dX11_fits_101 : decode cX11_fits 101 = .ok (.iload 6, 2) := by decide +kernel
theorem dX11_fits_103 : decode cX11_fits 103 = .ok (.imul, 1) := by decide +kernel
theorem dX11_fits_104 : decode cX11_fits 104 = .ok (.iload 7, 2) := by decide +kernel
theorem dX11_fits_106 : decode cX11_fits 106 = .ok (.iadd, 1) := by decide +kernel
theorem dX11_fits_107 : decode cX11_fits 107 = .ok (.ireturn, 1) := by decide +kernel
theorem dX11_fits_108 : decode cX11_fits 108 = .ok (.iinc 5 1, 3) := by decide +kernel
theorem dX11_fits_111 : decode cX11_fits 111 = .ok (.iinc 7 1, 3) := by decide +kernel
theorem dX11_fits_114 : decode cX11_fits 114 = .ok (.goto (-53), 3) := by decide +kernel
theorem dX11_fits_117 : decode cX11_fits 117 = .ok (.iinc 6 1, 3) := by decide +kernel
theorem dX11_fits_120 : decode cX11_fits 120 = .ok (.goto (-76), 3) := by decide +kernel
theorem dX11_fits_123 : decode cX11_fits 123 = .ok (.iload 4, 2) := by decide +kernel
theorem dX11_fits_125 : decode cX11_fits 125 = .ok (.iconst (-1), 1) := by decide +kernel
theorem dX11_fits_126 : decode cX11_fits 126 = .ok (.if_icmp .ne 8, 3) := by decide +kernel
theorem dX11_fits_129 : decode cX11_fits 129 = .ok (.iload 5, 2) := by decide +kernel
theorem dX11_fits_131 : decode cX11_fits 131 = .ok (.goto 4, 3) := by decide +kernel
theorem dX11_fits_134 : decode cX11_fits 134 = .ok (.iconst (-1), 1) := by decide +kernel
theorem dX11_fits_135 : decode cX11_fits 135 = .ok (.ireturn, 1) := by decide +kernel
theorem dX11_hold_0 : decode cX11_hold 0 = .ok (.iload_n 1, 1) := by decide +kernel
theorem dX11_hold_1 : decode cX11_hold 1 = .ok (.iconst 0, 1) := by decide +kernel
theorem dX11_hold_2 : decode cX11_hold 2 = .ok (.iconst 2, 1) := by decide +kernel
theorem dX11_hold_3 : decode cX11_hold 3 = .ok (.invokestatic 345, 3) := by decide +kernel
theorem dX11_hold_6 : decode cX11_hold 6 = .ok (.ifCond .ne 5, 3) := by decide +kernel
theorem dX11_hold_9 : decode cX11_hold 9 = .ok (.iconst 0, 1) := by decide +kernel
theorem dX11_hold_10 : decode cX11_hold 10 = .ok (.ireturn, 1) := by decide +kernel
theorem dX11_hold_11 : decode cX11_hold 11 = .ok (.aload_n 0, 1) := by decide +kernel
theorem dX11_hold_12 : decode cX11_hold 12 = .ok (.getfield 185, 3) := by decide +kernel
theorem dX11_hold_15 : decode cX11_hold 15 = .ok (.iload_n 1, 1) := by decide +kernel
theorem dX11_hold_16 : decode cX11_hold 16 = .ok (.iconst 1, 1) := by decide +kernel
theorem dX11_hold_17 : decode cX11_hold 17 = .ok (.bastore, 1) := by decide +kernel
theorem dX11_hold_18 : decode cX11_hold 18 = .ok (.iconst 0, 1) := by decide +kernel
theorem dX11_hold_19 : decode cX11_hold 19 = .ok (.istore_n 2, 1) := by decide +kernel
theorem dX11_hold_20 : decode cX11_hold 20 = .ok (.iload_n 2, 1) := by decide +kernel
theorem dX11_hold_21 : decode cX11_hold 21 = .ok (.sipush 250, 3) := by decide +kernel
theorem dX11_hold_24 : decode cX11_hold 24 = .ok (.if_icmp .ge 27, 3) := by decide +kernel
theorem dX11_hold_27 : decode cX11_hold 27 = .ok (.aload_n 0, 1) := by decide +kernel
theorem dX11_hold_28 : decode cX11_hold 28 = .ok (.getfield 188, 3) := by decide +kernel
theorem dX11_hold_31 : decode cX11_hold 31 = .ok (.sipush 250, 3) := by decide +kernel
theorem dX11_hold_34 : decode cX11_hold 34 = .ok (.iload_n 1, 1) := by decide +kernel
theorem dX11_hold_35 : decode cX11_hold 35 = .ok (.imul, 1) := by decide +kernel
theorem dX11_hold_36 : decode cX11_hold 36 = .ok (.iload_n 2, 1) := by decide +kernel
theorem dX11_hold_37 : decode cX11_hold 37 = .ok (.iadd, 1) := by decide +kernel
theorem dX11_hold_38 : decode cX11_hold 38 = .ok (.aload_n 0, 1) := by decide +kernel
theorem dX11_hold_39 : decode cX11_hold 39 = .ok (.getfield 122, 3) := by decide +kernel
theorem dX11_hold_42 : decode cX11_hold 42 = .ok (.iload_n 2, 1) := by decide +kernel
theorem dX11_hold_43 : decode cX11_hold 43 = .ok (.iaload, 1) := by decide +kernel
theorem dX11_hold_44 : decode cX11_hold 44 = .ok (.iastore, 1) := by decide +kernel
theorem dX11_hold_45 : decode cX11_hold 45 = .ok (.iinc 2 1, 3) := by decide +kernel
theorem dX11_hold_48 : decode cX11_hold 48 = .ok (.goto (-28), 3) := by decide +kernel
theorem dX11_hold_51 : decode cX11_hold 51 = .ok (.iconst 1, 1) := by decide +kernel
theorem dX11_hold_52 : decode cX11_hold 52 = .ok (.ireturn, 1) := by decide +kernel
theorem dX11_restore_0 : decode cX11_restore 0 = .ok (.iload_n 1, 1) := by decide +kernel
theorem dX11_restore_1 : decode cX11_restore 1 = .ok (.iconst 0, 1) := by decide +kernel
theorem dX11_restore_2 : decode cX11_restore 2 = .ok (.iconst 2, 1) := by decide +kernel
theorem dX11_restore_3 : decode cX11_restore 3 = .ok (.invokestatic 345, 3) := by decide +kernel
theorem dX11_restore_6 : decode cX11_restore 6 = .ok (.ifCond .eq 12, 3) := by decide +kernel
theorem dX11_restore_9 : decode cX11_restore 9 = .ok (.aload_n 0, 1) := by decide +kernel
theorem dX11_restore_10 : decode cX11_restore 10 = .ok (.getfield 185, 3) := by decide +kernel
theorem dX11_restore_13 : decode cX11_restore 13 = .ok (.iload_n 1, 1) := by decide +kernel
theorem dX11_restore_14 : decode cX11_restore 14 = .ok (.baload, 1) := by decide +kernel
theorem dX11_restore_15 : decode cX11_restore 15 = .ok (.ifCond .ne 5, 3) := by decide +kernel
theorem dX11_restore_18 : decode cX11_restore 18 = .ok (.iconst 0, 1) := by decide +kernel
theorem dX11_restore_19 : decode cX11_restore 19 = .ok (.ireturn, 1) := by decide +kernel
theorem dX11_restore_20 : decode cX11_restore 20 = .ok (.iconst 0, 1) := by decide +kernel
theorem dX11_restore_21 : decode cX11_restore 21 = .ok (.istore_n 2, 1) := by decide +kernel
theorem dX11_restore_22 : decode cX11_restore 22 = .ok (.iload_n 2, 1) := by decide +kernel
theorem dX11_restore_23 : decode cX11_restore 23 = .ok (.sipush 250, 3) := by decide +kernel
theorem dX11_restore_26 : decode cX11_restore 26 = .ok (.if_icmp .ge 27, 3) := by decide +kernel
theorem dX11_restore_29 : decode cX11_restore 29 = .ok (.aload_n 0, 1) := by decide +kernel
theorem dX11_restore_30 : decode cX11_restore 30 = .ok (.getfield 122, 3) := by decide +kernel
theorem dX11_restore_33 : decode cX11_restore 33 = .ok (.iload_n 2, 1) := by decide +kernel
theorem dX11_restore_34 : decode cX11_restore 34 = .ok (.aload_n 0, 1) := by decide +kernel
theorem dX11_restore_35 : decode cX11_restore 35 = .ok (.getfield 188, 3) := by decide +kernel
theorem dX11_restore_38 : decode cX11_restore 38 = .ok (.sipush 250, 3) := by decide +kernel
theorem dX11_restore_41 : decode cX11_restore 41 = .ok (.iload_n 1, 1) := by decide +kernel
theorem dX11_restore_42 : decode cX11_restore 42 = .ok (.imul, 1) := by decide +kernel
theorem dX11_restore_43 : decode cX11_restore 43 = .ok (.iload_n 2, 1) := by decide +kernel
theorem dX11_restore_44 : decode cX11_restore 44 = .ok (.iadd, 1) := by decide +kernel
theorem dX11_restore_45 : decode cX11_restore 45 = .ok (.iaload, 1) := by decide +kernel
theorem dX11_restore_46 : decode cX11_restore 46 = .ok (.iastore, 1) := by decide +kernel
theorem dX11_restore_47 : decode cX11_restore 47 = .ok (.iinc 2 1, 3) := by decide +kernel
theorem dX11_restore_50 : decode cX11_restore 50 = .ok (.goto (-28), 3) := by decide +kernel
theorem dX11_restore_53 : decode cX11_restore 53 = .ok (.aload_n 0, 1) := by decide +kernel
theorem dX11_restore_54 : decode cX11_restore 54 = .ok (.iconst 0, 1) := by decide +kernel
theorem dX11_restore_55 : decode cX11_restore 55 = .ok (.putfield 287, 3) := by decide +kernel
theorem dX11_restore_58 : decode cX11_restore 58 = .ok (.iconst 1, 1) := by decide +kernel
theorem dX11_restore_59 : decode cX11_restore 59 = .ok (.ireturn, 1) := by decide +kernel
theorem dX11_count_0 : decode cX11_count 0 = .ok (.aload_n 0, 1) := by decide +kernel
theorem dX11_count_1 : decode cX11_count 1 = .ok (.invokevirtual 373, 3) := by decide +kernel
theorem dX11_count_4 : decode cX11_count 4 = .ok (.iconst 0, 1) := by decide +kernel
theorem dX11_count_5 : decode cX11_count 5 = .ok (.istore_n 2, 1) := by decide +kernel
theorem dX11_count_6 : decode cX11_count 6 = .ok (.iconst 0, 1) := by decide +kernel
theorem dX11_count_7 : decode cX11_count 7 = .ok (.istore_n 3, 1) := by decide +kernel
theorem dX11_count_8 : decode cX11_count 8 = .ok (.iconst 0, 1) := by decide +kernel
theorem dX11_count_9 : decode cX11_count 9 = .ok (.istore 4, 2) := by decide +kernel
theorem dX11_count_11 : decode cX11_count 11 = .ok (.iload 4, 2) := by decide +kernel
theorem dX11_count_13 : decode cX11_count 13 = .ok (.bipush 72, 2) := by decide +kernel
theorem dX11_count_15 : decode cX11_count 15 = .ok (.if_icmp .ge 37, 3) := by decide +kernel
theorem dX11_count_18 : decode cX11_count 18 = .ok (.aload_n 0, 1) := by decide +kernel
theorem dX11_count_19 : decode cX11_count 19 = .ok (.getfield 125, 3) := by decide +kernel
theorem dX11_count_22 : decode cX11_count 22 = .ok (.iload 4, 2) := by decide +kernel
theorem dX11_count_24 : decode cX11_count 24 = .ok (.iaload, 1) := by decide +kernel
theorem dX11_count_25 : decode cX11_count 25 = .ok (.ifCond .lt 6, 3) := by decide +kernel
theorem dX11_count_28 : decode cX11_count 28 = .ok (.iinc 2 1, 3) := by decide +kernel
theorem dX11_count_31 : decode cX11_count 31 = .ok (.aload_n 0, 1) := by decide +kernel
theorem dX11_count_32 : decode cX11_count 32 = .ok (.getfield 125, 3) := by decide +kernel
theorem dX11_count_35 : decode cX11_count 35 = .ok (.iload 4, 2) := by decide +kernel
theorem dX11_count_37 : decode cX11_count 37 = .ok (.iaload, 1) := by decide +kernel
theorem dX11_count_38 : decode cX11_count 38 = .ok (.bipush (-2), 2) := by decide +kernel
theorem dX11_count_40 : decode cX11_count 40 = .ok (.if_icmp .ne 6, 3) := by decide +kernel
theorem dX11_count_43 : decode cX11_count 43 = .ok (.iinc 3 1, 3) := by decide +kernel
theorem dX11_count_46 : decode cX11_count 46 = .ok (.iinc 4 1, 3) := by decide +kernel
theorem dX11_count_49 : decode cX11_count 49 = .ok (.goto (-38), 3) := by decide +kernel
theorem dX11_count_52 : decode cX11_count 52 = .ok (.iload_n 1, 1) := by decide +kernel
theorem dX11_count_53 : decode cX11_count 53 = .ok (.tableswitch 241 0 12 #[67, 77, 87, 97, 107, 117, 126, 128, 130, 181, 186, 191, 196], 67) := by decide +kernel
theorem dX11_count_120 : decode cX11_count 120 = .ok (.aload_n 0, 1) := by decide +kernel
theorem dX11_count_121 : decode cX11_count 121 = .ok (.getfield 43, 3) := by decide +kernel
theorem dX11_count_124 : decode cX11_count 124 = .ok (.aload_n 0, 1) := by decide +kernel
theorem dX11_count_125 : decode cX11_count 125 = .ok (.getfield 269, 3) := by decide +kernel
theorem dX11_count_128 : decode cX11_count 128 = .ok (.iaload, 1) := by decide +kernel
theorem dX11_count_129 : decode cX11_count 129 = .ok (.ireturn, 1) := by decide +kernel
theorem dX11_count_130 : decode cX11_count 130 = .ok (.aload_n 0, 1) := by decide +kernel
theorem dX11_count_131 : decode cX11_count 131 = .ok (.getfield 46, 3) := by decide +kernel
theorem dX11_count_134 : decode cX11_count 134 = .ok (.aload_n 0, 1) := by decide +kernel
theorem dX11_count_135 : decode cX11_count 135 = .ok (.getfield 269, 3) := by decide +kernel
theorem dX11_count_138 : decode cX11_count 138 = .ok (.iaload, 1) := by decide +kernel
theorem dX11_count_139 : decode cX11_count 139 = .ok (.ireturn, 1) := by decide +kernel
theorem dX11_count_140 : decode cX11_count 140 = .ok (.aload_n 0, 1) := by decide +kernel
theorem dX11_count_141 : decode cX11_count 141 = .ok (.getfield 58, 3) := by decide +kernel
theorem dX11_count_144 : decode cX11_count 144 = .ok (.aload_n 0, 1) := by decide +kernel
theorem dX11_count_145 : decode cX11_count 145 = .ok (.getfield 269, 3) := by decide +kernel
theorem dX11_count_148 : decode cX11_count 148 = .ok (.iaload, 1) := by decide +kernel
theorem dX11_count_149 : decode cX11_count 149 = .ok (.ireturn, 1) := by decide +kernel
theorem dX11_count_150 : decode cX11_count 150 = .ok (.aload_n 0, 1) := by decide +kernel
theorem dX11_count_151 : decode cX11_count 151 = .ok (.getfield 61, 3) := by decide +kernel
theorem dX11_count_154 : decode cX11_count 154 = .ok (.aload_n 0, 1) := by decide +kernel
theorem dX11_count_155 : decode cX11_count 155 = .ok (.getfield 269, 3) := by decide +kernel
theorem dX11_count_158 : decode cX11_count 158 = .ok (.iaload, 1) := by decide +kernel
theorem dX11_count_159 : decode cX11_count 159 = .ok (.ireturn, 1) := by decide +kernel
theorem dX11_count_160 : decode cX11_count 160 = .ok (.aload_n 0, 1) := by decide +kernel
theorem dX11_count_161 : decode cX11_count 161 = .ok (.getfield 76, 3) := by decide +kernel
theorem dX11_count_164 : decode cX11_count 164 = .ok (.aload_n 0, 1) := by decide +kernel
theorem dX11_count_165 : decode cX11_count 165 = .ok (.getfield 269, 3) := by decide +kernel
theorem dX11_count_168 : decode cX11_count 168 = .ok (.iaload, 1) := by decide +kernel
theorem dX11_count_169 : decode cX11_count 169 = .ok (.ireturn, 1) := by decide +kernel
theorem dX11_count_170 : decode cX11_count 170 = .ok (.aload_n 0, 1) := by decide +kernel
theorem dX11_count_171 : decode cX11_count 171 = .ok (.getfield 125, 3) := by decide +kernel
theorem dX11_count_174 : decode cX11_count 174 = .ok (.sipush 240, 3) := by decide +kernel
theorem dX11_count_177 : decode cX11_count 177 = .ok (.iaload, 1) := by decide +kernel
theorem dX11_count_178 : decode cX11_count 178 = .ok (.ireturn, 1) := by decide +kernel
theorem dX11_count_179 : decode cX11_count 179 = .ok (.iload_n 2, 1) := by decide +kernel
theorem dX11_count_180 : decode cX11_count 180 = .ok (.ireturn, 1) := by decide +kernel
theorem dX11_count_181 : decode cX11_count 181 = .ok (.iload_n 3, 1) := by decide +kernel
theorem dX11_count_182 : decode cX11_count 182 = .ok (.ireturn, 1) := by decide +kernel
theorem dX11_count_183 : decode cX11_count 183 = .ok (.iconst 0, 1) := by decide +kernel
theorem dX11_count_184 : decode cX11_count 184 = .ok (.istore 4, 2) := by decide +kernel
theorem dX11_count_186 : decode cX11_count 186 = .ok (.iconst 0, 1) := by decide +kernel
theorem dX11_count_187 : decode cX11_count 187 = .ok (.istore 5, 2) := by decide +kernel
theorem dX11_count_189 : decode cX11_count 189 = .ok (.iload 5, 2) := by decide +kernel
theorem dX11_count_191 : decode cX11_count 191 = .ok (.bipush 96, 2) := by decide +kernel
theorem dX11_count_193 : decode cX11_count 193 = .ok (.if_icmp .ge 38, 3) := by decide +kernel
theorem dX11_count_196 : decode cX11_count 196 = .ok (.aload_n 0, 1) := by decide +kernel
theorem dX11_count_197 : decode cX11_count 197 = .ok (.iload 5, 2) := by decide +kernel
theorem dX11_count_199 : decode cX11_count 199 = .ok (.bipush 12, 2) := by decide +kernel
theorem dX11_count_201 : decode cX11_count 201 = .ok (.irem, 1) := by decide +kernel
theorem dX11_count_202 : decode cX11_count 202 = .ok (.iload 5, 2) := by decide +kernel
theorem dX11_count_204 : decode cX11_count 204 = .ok (.bipush 12, 2) := by decide +kernel
theorem dX11_count_206 : decode cX11_count 206 = .ok (.idiv, 1) := by decide +kernel
theorem dX11_count_207 : decode cX11_count 207 = .ok (.invokevirtual 369, 3) := by decide +kernel
theorem dX11_count_210 : decode cX11_count 210 = .ok (.ifCond .eq 15, 3) := by decide +kernel
theorem dX11_count_213 : decode cX11_count 213 = .ok (.aload_n 0, 1) := by decide +kernel
theorem dX11_count_214 : decode cX11_count 214 = .ok (.iload 5, 2) := by decide +kernel
theorem dX11_count_216 : decode cX11_count 216 = .ok (.invokevirtual 376, 3) := by decide +kernel
theorem dX11_count_219 : decode cX11_count 219 = .ok (.ifCond .eq 6, 3) := by decide +kernel
theorem dX11_count_222 : decode cX11_count 222 = .ok (.iinc 4 1, 3) := by decide +kernel
theorem dX11_count_225 : decode cX11_count 225 = .ok (.iinc 5 1, 3) := by decide +kernel
theorem dX11_count_228 : decode cX11_count 228 = .ok (.goto (-39), 3) := by decide +kernel
theorem dX11_count_231 : decode cX11_count 231 = .ok (.iload 4, 2) := by decide +kernel
theorem dX11_count_233 : decode cX11_count 233 = .ok (.ireturn, 1) := by decide +kernel
theorem dX11_count_234 : decode cX11_count 234 = .ok (.aload_n 0, 1) := by decide +kernel
theorem dX11_count_235 : decode cX11_count 235 = .ok (.getfield 202, 3) := by decide +kernel
theorem dX11_count_238 : decode cX11_count 238 = .ok (.ireturn, 1) := by decide +kernel
theorem dX11_count_239 : decode cX11_count 239 = .ok (.aload_n 0, 1) := by decide +kernel
theorem dX11_count_240 : decode cX11_count 240 = .ok (.getfield 287, 3) := by decide +kernel
theorem dX11_count_243 : decode cX11_count 243 = .ok (.ireturn, 1) := by decide +kernel
theorem dX11_count_244 : decode cX11_count 244 = .ok (.aload_n 0, 1) := by decide +kernel
theorem dX11_count_245 : decode cX11_count 245 = .ok (.getfield 290, 3) := by decide +kernel
theorem dX11_count_248 : decode cX11_count 248 = .ok (.ireturn, 1) := by decide +kernel
theorem dX11_count_249 : decode cX11_count 249 = .ok (.aload_n 0, 1) := by decide +kernel
theorem dX11_count_250 : decode cX11_count 250 = .ok (.getfield 185, 3) := by decide +kernel
theorem dX11_count_253 : decode cX11_count 253 = .ok (.iconst 0, 1) := by decide +kernel
theorem dX11_count_254 : decode cX11_count 254 = .ok (.baload, 1) := by decide +kernel
theorem dX11_count_255 : decode cX11_count 255 = .ok (.ifCond .eq 7, 3) := by decide +kernel
theorem dX11_count_258 : decode cX11_count 258 = .ok (.iconst 1, 1) := by decide +kernel
theorem dX11_count_259 : decode cX11_count 259 = .ok (.goto 4, 3) := by decide +kernel
theorem dX11_count_262 : decode cX11_count 262 = .ok (.iconst 0, 1) := by decide +kernel
theorem dX11_count_263 : decode cX11_count 263 = .ok (.aload_n 0, 1) := by decide +kernel
theorem dX11_count_264 : decode cX11_count 264 = .ok (.getfield 185, 3) := by decide +kernel
theorem dX11_count_267 : decode cX11_count 267 = .ok (.iconst 1, 1) := by decide +kernel
theorem dX11_count_268 : decode cX11_count 268 = .ok (.baload, 1) := by decide +kernel
theorem dX11_count_269 : decode cX11_count 269 = .ok (.ifCond .eq 7, 3) := by decide +kernel
theorem dX11_count_272 : decode cX11_count 272 = .ok (.iconst 1, 1) := by decide +kernel
theorem dX11_count_273 : decode cX11_count 273 = .ok (.goto 4, 3) := by decide +kernel
theorem dX11_count_276 : decode cX11_count 276 = .ok (.iconst 0, 1) := by decide +kernel
theorem dX11_count_277 : decode cX11_count 277 = .ok (.iadd, 1) := by decide +kernel
theorem dX11_count_278 : decode cX11_count 278 = .ok (.aload_n 0, 1) := by decide +kernel
theorem dX11_count_279 : decode cX11_count 279 = .ok (.getfield 185, 3) := by decide +kernel
theorem dX11_count_282 : decode cX11_count 282 = .ok (.iconst 2, 1) := by decide +kernel
theorem dX11_count_283 : decode cX11_count 283 = .ok (.baload, 1) := by decide +kernel
theorem dX11_count_284 : decode cX11_count 284 = .ok (.ifCond .eq 7, 3) := by decide +kernel
theorem dX11_count_287 : decode cX11_count 287 = .ok (.iconst 1, 1) := by decide +kernel
theorem dX11_count_288 : decode cX11_count 288 = .ok (.goto 4, 3) := by decide +kernel
theorem dX11_count_291 : decode cX11_count 291 = .ok (.iconst 0, 1) := by decide +kernel
theorem dX11_count_292 : decode cX11_count 292 = .ok (.iadd, 1) := by decide +kernel
theorem dX11_count_293 : decode cX11_count 293 = .ok (.ireturn, 1) := by decide +kernel
theorem dX11_count_294 : decode cX11_count 294 = .ok (.iconst (-1), 1) := by decide +kernel
theorem dX11_count_295 : decode cX11_count 295 = .ok (.ireturn, 1) := by decide +kernel
