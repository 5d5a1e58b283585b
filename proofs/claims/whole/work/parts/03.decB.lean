theorem dX11_init_0 : decode cX11_init 0 = .ok (.aload_n 0, 1) := by decide +kernel
theorem dX11_init_1 : decode cX11_init 1 = .ok (.invokespecial 1, 3) := by decide +kernel
theorem dX11_init_4 : decode cX11_init 4 = .ok (.aload_n 0, 1) := by decide +kernel
theorem dX11_init_5 : decode cX11_init 5 = .ok (.sipush 240, 3) := by decide +kernel
theorem dX11_init_8 : decode cX11_init 8 = .ok (.newarray .int, 2) := by decide +kernel
theorem dX11_init_10 : decode cX11_init 10 = .ok (.putfield 7, 3) := by decide +kernel
theorem dX11_init_13 : decode cX11_init 13 = .ok (.aload_n 0, 1) := by decide +kernel
theorem dX11_init_14 : decode cX11_init 14 = .ok (.bipush 12, 2) := by decide +kernel
theorem dX11_init_16 : decode cX11_init 16 = .ok (.newarray .int, 2) := by decide +kernel
theorem dX11_init_18 : decode cX11_init 18 = .ok (.putfield 13, 3) := by decide +kernel
theorem dX11_init_21 : decode cX11_init 21 = .ok (.aload_n 0, 1) := by decide +kernel
theorem dX11_init_22 : decode cX11_init 22 = .ok (.bipush 12, 2) := by decide +kernel
theorem dX11_init_24 : decode cX11_init 24 = .ok (.newarray .int, 2) := by decide +kernel
theorem dX11_init_26 : decode cX11_init 26 = .ok (.putfield 16, 3) := by decide +kernel
theorem dX11_init_29 : decode cX11_init 29 = .ok (.aload_n 0, 1) := by decide +kernel
theorem dX11_init_30 : decode cX11_init 30 = .ok (.bipush 12, 2) := by decide +kernel
theorem dX11_init_32 : decode cX11_init 32 = .ok (.newarray .int, 2) := by decide +kernel
theorem dX11_init_34 : decode cX11_init 34 = .ok (.putfield 19, 3) := by decide +kernel
theorem dX11_init_37 : decode cX11_init 37 = .ok (.aload_n 0, 1) := by decide +kernel
theorem dX11_init_38 : decode cX11_init 38 = .ok (.bipush 12, 2) := by decide +kernel
theorem dX11_init_40 : decode cX11_init 40 = .ok (.newarray .int, 2) := by decide +kernel
theorem dX11_init_42 : decode cX11_init 42 = .ok (.putfield 22, 3) := by decide +kernel
theorem dX11_init_45 : decode cX11_init 45 = .ok (.aload_n 0, 1) := by decide +kernel
theorem dX11_init_46 : decode cX11_init 46 = .ok (.bipush 36, 2) := by decide +kernel
theorem dX11_init_48 : decode cX11_init 48 = .ok (.newarray .int, 2) := by decide +kernel
theorem dX11_init_50 : decode cX11_init 50 = .ok (.putfield 25, 3) := by decide +kernel
theorem dX11_init_53 : decode cX11_init 53 = .ok (.aload_n 0, 1) := by decide +kernel
theorem dX11_init_54 : decode cX11_init 54 = .ok (.bipush 96, 2) := by decide +kernel
theorem dX11_init_56 : decode cX11_init 56 = .ok (.newarray .int, 2) := by decide +kernel
theorem dX11_init_58 : decode cX11_init 58 = .ok (.putfield 28, 3) := by decide +kernel
theorem dX11_init_61 : decode cX11_init 61 = .ok (.aload_n 0, 1) := by decide +kernel
theorem dX11_init_62 : decode cX11_init 62 = .ok (.bipush 96, 2) := by decide +kernel
theorem dX11_init_64 : decode cX11_init 64 = .ok (.newarray .int, 2) := by decide +kernel
theorem dX11_init_66 : decode cX11_init 66 = .ok (.putfield 31, 3) := by decide +kernel
theorem dX11_init_69 : decode cX11_init 69 = .ok (.aload_n 0, 1) := by decide +kernel
theorem dX11_init_70 : decode cX11_init 70 = .ok (.bipush 96, 2) := by decide +kernel
theorem dX11_init_72 : decode cX11_init 72 = .ok (.newarray .int, 2) := by decide +kernel
theorem dX11_init_74 : decode cX11_init 74 = .ok (.putfield 34, 3) := by decide +kernel
theorem dX11_init_77 : decode cX11_init 77 = .ok (.aload_n 0, 1) := by decide +kernel
theorem dX11_init_78 : decode cX11_init 78 = .ok (.bipush 96, 2) := by decide +kernel
theorem dX11_init_80 : decode cX11_init 80 = .ok (.newarray .int, 2) := by decide +kernel
theorem dX11_init_82 : decode cX11_init 82 = .ok (.putfield 37, 3) := by decide +kernel
theorem dX11_init_85 : decode cX11_init 85 = .ok (.aload_n 0, 1) := by decide +kernel
theorem dX11_init_86 : decode cX11_init 86 = .ok (.bipush 96, 2) := by decide +kernel
theorem dX11_init_88 : decode cX11_init 88 = .ok (.newarray .int, 2) := by decide +kernel
theorem dX11_init_90 : decode cX11_init 90 = .ok (.putfield 40, 3) := by decide +kernel
theorem dX11_init_93 : decode cX11_init 93 = .ok (.aload_n 0, 1) := by decide +kernel
theorem dX11_init_94 : decode cX11_init 94 = .ok (.sipush 768, 3) := by decide +kernel
theorem dX11_init_97 : decode cX11_init 97 = .ok (.newarray .int, 2) := by decide +kernel
theorem dX11_init_99 : decode cX11_init 99 = .ok (.putfield 43, 3) := by decide +kernel
theorem dX11_init_102 : decode cX11_init 102 = .ok (.aload_n 0, 1) := by decide +kernel
theorem dX11_init_103 : decode cX11_init 103 = .ok (.sipush 252, 3) := by decide +kernel
theorem dX11_init_106 : decode cX11_init 106 = .ok (.newarray .int, 2) := by decide +kernel
theorem dX11_init_108 : decode cX11_init 108 = .ok (.putfield 46, 3) := by decide +kernel
theorem dX11_init_111 : decode cX11_init 111 = .ok (.aload_n 0, 1) := by decide +kernel
theorem dX11_init_112 : decode cX11_init 112 = .ok (.sipush 1008, 3) := by decide +kernel
theorem dX11_init_115 : decode cX11_init 115 = .ok (.newarray .int, 2) := by decide +kernel
theorem dX11_init_117 : decode cX11_init 117 = .ok (.putfield 49, 3) := by decide +kernel
theorem dX11_init_120 : decode cX11_init 120 = .ok (.aload_n 0, 1) := by decide +kernel
theorem dX11_init_121 : decode cX11_init 121 = .ok (.bipush 12, 2) := by decide +kernel
theorem dX11_init_123 : decode cX11_init 123 = .ok (.newarray .int, 2) := by decide +kernel
theorem dX11_init_125 : decode cX11_init 125 = .ok (.putfield 52, 3) := by decide +kernel
theorem dX11_init_128 : decode cX11_init 128 = .ok (.aload_n 0, 1) := by decide +kernel
theorem dX11_init_129 : decode cX11_init 129 = .ok (.bipush 12, 2) := by decide +kernel
theorem dX11_init_131 : decode cX11_init 131 = .ok (.newarray .int, 2) := by decide +kernel
theorem dX11_init_133 : decode cX11_init 133 = .ok (.putfield 55, 3) := by decide +kernel
theorem dX11_init_136 : decode cX11_init 136 = .ok (.aload_n 0, 1) := by decide +kernel
theorem dX11_init_137 : decode cX11_init 137 = .ok (.bipush 12, 2) := by decide +kernel
theorem dX11_init_139 : decode cX11_init 139 = .ok (.newarray .int, 2) := by decide +kernel
theorem dX11_init_141 : decode cX11_init 141 = .ok (.putfield 58, 3) := by decide +kernel
theorem dX11_init_144 : decode cX11_init 144 = .ok (.aload_n 0, 1) := by decide +kernel
theorem dX11_init_145 : decode cX11_init 145 = .ok (.bipush 12, 2) := by decide +kernel
theorem dX11_init_147 : decode cX11_init 147 = .ok (.newarray .int, 2) := by decide +kernel
theorem dX11_init_149 : decode cX11_init 149 = .ok (.putfield 61, 3) := by decide +kernel
theorem dX11_init_152 : decode cX11_init 152 = .ok (.aload_n 0, 1) := by decide +kernel
theorem dX11_init_153 : decode cX11_init 153 = .ok (.bipush 36, 2) := by decide +kernel
theorem dX11_init_155 : decode cX11_init 155 = .ok (.newarray .int, 2) := by decide +kernel
theorem dX11_init_157 : decode cX11_init 157 = .ok (.putfield 64, 3) := by decide +kernel
theorem dX11_init_160 : decode cX11_init 160 = .ok (.aload_n 0, 1) := by decide +kernel
theorem dX11_init_161 : decode cX11_init 161 = .ok (.bipush 96, 2) := by decide +kernel
theorem dX11_init_163 : decode cX11_init 163 = .ok (.newarray .int, 2) := by decide +kernel
theorem dX11_init_165 : decode cX11_init 165 = .ok (.putfield 67, 3) := by decide +kernel
theorem dX11_init_168 : decode cX11_init 168 = .ok (.aload_n 0, 1) := by decide +kernel
theorem dX11_init_169 : decode cX11_init 169 = .ok (.bipush 96, 2) := by decide +kernel
theorem dX11_init_171 : decode cX11_init 171 = .ok (.newarray .int, 2) := by decide +kernel
theorem dX11_init_173 : decode cX11_init 173 = .ok (.putfield 70, 3) := by decide +kernel
theorem dX11_init_176 : decode cX11_init 176 = .ok (.aload_n 0, 1) := by decide +kernel
theorem dX11_init_177 : decode cX11_init 177 = .ok (.bipush 96, 2) := by decide +kernel
theorem dX11_init_179 : decode cX11_init 179 = .ok (.newarray .int, 2) := by decide +kernel
theorem dX11_init_181 : decode cX11_init 181 = .ok (.putfield 73, 3) := by decide +kernel
theorem dX11_init_184 : decode cX11_init 184 = .ok (.aload_n 0, 1) := by decide +kernel
theorem dX11_init_185 : decode cX11_init 185 = .ok (.bipush 96, 2) := by decide +kernel
theorem dX11_init_187 : decode cX11_init 187 = .ok (.newarray .int, 2) := by decide +kernel
theorem dX11_init_189 : decode cX11_init 189 = .ok (.putfield 76, 3) := by decide +kernel
theorem dX11_init_192 : decode cX11_init 192 = .ok (.aload_n 0, 1) := by decide +kernel
theorem dX11_init_193 : decode cX11_init 193 = .ok (.bipush 96, 2) := by decide +kernel
theorem dX11_init_195 : decode cX11_init 195 = .ok (.newarray .int, 2) := by decide +kernel
theorem dX11_init_197 : decode cX11_init 197 = .ok (.putfield 79, 3) := by decide +kernel
theorem dX11_init_200 : decode cX11_init 200 = .ok (.aload_n 0, 1) := by decide +kernel
theorem dX11_init_201 : decode cX11_init 201 = .ok (.sipush 768, 3) := by decide +kernel
theorem dX11_init_204 : decode cX11_init 204 = .ok (.newarray .int, 2) := by decide +kernel
theorem dX11_init_206 : decode cX11_init 206 = .ok (.putfield 82, 3) := by decide +kernel
theorem dX11_init_209 : decode cX11_init 209 = .ok (.aload_n 0, 1) := by decide +kernel
theorem dX11_init_210 : decode cX11_init 210 = .ok (.bipush 96, 2) := by decide +kernel
theorem dX11_init_212 : decode cX11_init 212 = .ok (.newarray .int, 2) := by decide +kernel
theorem dX11_init_214 : decode cX11_init 214 = .ok (.putfield 85, 3) := by decide +kernel
theorem dX11_init_217 : decode cX11_init 217 = .ok (.aload_n 0, 1) := by decide +kernel
theorem dX11_init_218 : decode cX11_init 218 = .ok (.bipush 12, 2) := by decide +kernel
theorem dX11_init_220 : decode cX11_init 220 = .ok (.newarray .int, 2) := by decide +kernel
theorem dX11_init_222 : decode cX11_init 222 = .ok (.putfield 88, 3) := by decide +kernel
theorem dX11_init_225 : decode cX11_init 225 = .ok (.aload_n 0, 1) := by decide +kernel
theorem dX11_init_226 : decode cX11_init 226 = .ok (.bipush 48, 2) := by decide +kernel
theorem dX11_init_228 : decode cX11_init 228 = .ok (.newarray .int, 2) := by decide +kernel
theorem dX11_init_230 : decode cX11_init 230 = .ok (.putfield 91, 3) := by decide +kernel
theorem dX11_init_233 : decode cX11_init 233 = .ok (.aload_n 0, 1) := by decide +kernel
theorem dX11_init_234 : decode cX11_init 234 = .ok (.bipush 32, 2) := by decide +kernel
theorem dX11_init_236 : decode cX11_init 236 = .ok (.newarray .int, 2) := by decide +kernel
theorem dX11_init_238 : decode cX11_init 238 = .ok (.putfield 94, 3) := by decide +kernel
theorem dX11_init_241 : decode cX11_init 241 = .ok (.aload_n 0, 1) := by decide +kernel
theorem dX11_init_242 : decode cX11_init 242 = .ok (.bipush 12, 2) := by decide +kernel
theorem dX11_init_244 : decode cX11_init 244 = .ok (.newarray .int, 2) := by decide +kernel
theorem dX11_init_246 : decode cX11_init 246 = .ok (.putfield 97, 3) := by decide +kernel
theorem dX11_init_249 : decode cX11_init 249 = .ok (.aload_n 0, 1) := by decide +kernel
theorem dX11_init_250 : decode cX11_init 250 = .ok (.bipush 12, 2) := by decide +kernel
theorem dX11_init_252 : decode cX11_init 252 = .ok (.newarray .int, 2) := by decide +kernel
theorem dX11_init_254 : decode cX11_init 254 = .ok (.putfield 100, 3) := by decide +kernel
theorem dX11_init_257 : decode cX11_init 257 = .ok (.aload_n 0, 1) := by decide +kernel
theorem dX11_init_258 : decode cX11_init 258 = .ok (.bipush 7, 2) := by decide +kernel
theorem dX11_init_260 : decode cX11_init 260 = .ok (.newarray .int, 2) := by decide +kernel
theorem dX11_init_262 : decode cX11_init 262 = .ok (.putfield 103, 3) := by decide +kernel
theorem dX11_init_265 : decode cX11_init 265 = .ok (.aload_n 0, 1) := by decide +kernel
theorem dX11_init_266 : decode cX11_init 266 = .ok (.bipush 110, 2) := by decide +kernel
theorem dX11_init_268 : decode cX11_init 268 = .ok (.bipush 97, 2) := by decide +kernel
theorem dX11_init_270 : decode cX11_init 270 = .ok (.bipush 98, 2) := by decide +kernel
theorem dX11_init_272 : decode cX11_init 272 = .ok (.bipush 58, 2) := by decide +kernel
theorem dX11_init_274 : decode cX11_init 274 = .ok (.bipush 43, 2) := by decide +kernel
theorem dX11_init_276 : decode cX11_init 276 = .ok (.invokevirtual 106, 3) := by decide +kernel
theorem dX11_init_279 : decode cX11_init 279 = .ok (.aload_n 0, 1) := by decide +kernel
theorem dX11_init_280 : decode cX11_init 280 = .ok (.bipush 112, 2) := by decide +kernel
theorem dX11_init_282 : decode cX11_init 282 = .ok (.bipush 49, 2) := by decide +kernel
theorem dX11_init_284 : decode cX11_init 284 = .ok (.bipush 50, 2) := by decide +kernel
theorem dX11_init_286 : decode cX11_init 286 = .ok (.bipush 56, 2) := by decide +kernel
theorem dX11_init_288 : decode cX11_init 288 = .ok (.bipush 47, 2) := by decide +kernel
theorem dX11_init_290 : decode cX11_init 290 = .ok (.invokevirtual 106, 3) := by decide +kernel
theorem dX11_init_293 : decode cX11_init 293 = .ok (.aload_n 0, 1) := by decide +kernel
theorem dX11_init_294 : decode cX11_init 294 = .ok (.bipush 50, 2) := by decide +kernel
theorem dX11_init_296 : decode cX11_init 296 = .ok (.bipush 44, 2) := by decide +kernel
theorem dX11_init_298 : decode cX11_init 298 = .ok (.bipush 43, 2) := by decide +kernel
theorem dX11_init_300 : decode cX11_init 300 = .ok (.bipush 105, 2) := by decide +kernel
theorem dX11_init_302 : decode cX11_init 302 = .ok (.bipush 97, 2) := by decide +kernel
theorem dX11_init_304 : decode cX11_init 304 = .ok (.invokevirtual 106, 3) := by decide +kernel
theorem dX11_init_307 : decode cX11_init 307 = .ok (.aload_n 0, 1) := by decide +kernel
theorem dX11_init_308 : decode cX11_init 308 = .ok (.bipush 99, 2) := by decide +kernel
theorem dX11_init_310 : decode cX11_init 310 = .ok (.bipush 44, 2) := by decide +kernel
theorem dX11_init_312 : decode cX11_init 312 = .ok (.bipush 126, 2) := by decide +kernel
theorem dX11_init_314 : decode cX11_init 314 = .ok (.bipush 104, 2) := by decide +kernel
theorem dX11_init_316 : decode cX11_init 316 = .ok (.bipush 97, 2) := by decide +kernel
theorem dX11_init_318 : decode cX11_init 318 = .ok (.invokevirtual 106, 3) := by decide +kernel
theorem dX11_init_321 : decode cX11_init 321 = .ok (.aload_n 0, 1) := by decide +kernel
theorem dX11_init_322 : decode cX11_init 322 = .ok (.bipush 100, 2) := by decide +kernel
theorem dX11_init_324 : decode cX11_init 324 = .ok (.bipush 44, 2) := by decide +kernel
theorem dX11_init_326 : decode cX11_init 326 = .ok (.bipush 45, 2) := by decide +kernel
theorem dX11_init_328 : decode cX11_init 328 = .ok (.bipush 97, 2) := by decide +kernel
theorem dX11_init_330 : decode cX11_init 330 = .ok (.bipush 59, 2) := by decide +kernel
theorem dX11_init_332 : decode cX11_init 332 = .ok (.invokevirtual 106, 3) := by decide +kernel
theorem dX11_init_335 : decode cX11_init 335 = .ok (.aload_n 0, 1) := by decide +kernel
theorem dX11_init_336 : decode cX11_init 336 = .ok (.bipush 110, 2) := by decide +kernel
theorem dX11_init_338 : decode cX11_init 338 = .ok (.bipush 97, 2) := by decide +kernel
theorem dX11_init_340 : decode cX11_init 340 = .ok (.bipush 99, 2) := by decide +kernel
theorem dX11_init_342 : decode cX11_init 342 = .ok (.bipush 58, 2) := by decide +kernel
theorem dX11_init_344 : decode cX11_init 344 = .ok (.bipush 63, 2) := by decide +kernel
theorem dX11_init_346 : decode cX11_init 346 = .ok (.invokevirtual 106, 3) := by decide +kernel
theorem dX11_init_349 : decode cX11_init 349 = .ok (.aload_n 0, 1) := by decide +kernel
theorem dX11_init_350 : decode cX11_init 350 = .ok (.bipush 112, 2) := by decide +kernel
theorem dX11_init_352 : decode cX11_init 352 = .ok (.bipush 48, 2) := by decide +kernel
theorem dX11_init_354 : decode cX11_init 354 = .ok (.bipush 47, 2) := by decide +kernel
theorem dX11_init_356 : decode cX11_init 356 = .ok (.bipush 55, 2) := by decide +kernel
theorem dX11_init_358 : decode cX11_init 358 = .ok (.bipush 44, 2) := by decide +kernel
theorem dX11_init_360 : decode cX11_init 360 = .ok (.invokevirtual 106, 3) := by decide +kernel
theorem dX11_init_363 : decode cX11_init 363 = .ok (.aload_n 0, 1) := by decide +kernel
theorem dX11_init_364 : decode cX11_init 364 = .ok (.bipush 43, 2) := by decide +kernel
theorem dX11_init_366 : decode cX11_init 366 = .ok (.bipush 109, 2) := by decide +kernel
theorem dX11_init_368 : decode cX11_init 368 = .ok (.bipush 97, 2) := by decide +kernel
theorem dX11_init_370 : decode cX11_init 370 = .ok (.bipush 98, 2) := by decide +kernel
theorem dX11_init_372 : decode cX11_init 372 = .ok (.bipush 44, 2) := by decide +kernel
theorem dX11_init_374 : decode cX11_init 374 = .ok (.invokevirtual 106, 3) := by decide +kernel
theorem dX11_init_377 : decode cX11_init 377 = .ok (.aload_n 0, 1) := by decide +kernel
theorem dX11_init_378 : decode cX11_init 378 = .ok (.bipush 114, 2) := by decide +kernel
theorem dX11_init_380 : decode cX11_init 380 = .ok (.bipush 101, 2) := by decide +kernel
theorem dX11_init_382 : decode cX11_init 382 = .ok (.bipush 98, 2) := by decide +kernel
theorem dX11_init_384 : decode cX11_init 384 = .ok (.bipush 59, 2) := by decide +kernel
theorem dX11_init_386 : decode cX11_init 386 = .ok (.bipush 110, 2) := by decide +kernel
theorem dX11_init_388 : decode cX11_init 388 = .ok (.invokevirtual 106, 3) := by decide +kernel
theorem dX11_init_391 : decode cX11_init 391 = .ok (.aload_n 0, 1) := by decide +kernel
theorem dX11_init_392 : decode cX11_init 392 = .ok (.bipush 101, 2) := by decide +kernel
theorem dX11_init_394 : decode cX11_init 394 = .ok (.bipush 98, 2) := by decide +kernel
theorem dX11_init_396 : decode cX11_init 396 = .ok (.bipush 58, 2) := by decide +kernel
theorem dX11_init_398 : decode cX11_init 398 = .ok (.bipush 43, 2) := by decide +kernel
theorem dX11_init_400 : decode cX11_init 400 = .ok (.bipush 101, 2) := by decide +kernel
theorem dX11_init_402 : decode cX11_init 402 = .ok (.invokevirtual 106, 3) := by decide +kernel
theorem dX11_init_405 : decode cX11_init 405 = .ok (.aload_n 0, 1) := by decide +kernel
theorem dX11_init_406 : decode cX11_init 406 = .ok (.bipush 37, 2) := by decide +kernel
theorem dX11_init_408 : decode cX11_init 408 = .ok (.bipush 50, 2) := by decide +kernel
theorem dX11_init_410 : decode cX11_init 410 = .ok (.bipush 100, 2) := by decide +kernel
theorem dX11_init_412 : decode cX11_init 412 = .ok (.bipush 37, 2) := by decide +kernel
theorem dX11_init_414 : decode cX11_init 414 = .ok (.bipush 108, 2) := by decide +kernel
theorem dX11_init_416 : decode cX11_init 416 = .ok (.invokevirtual 106, 3) := by decide +kernel
theorem dX11_init_419 : decode cX11_init 419 = .ok (.aload_n 0, 1) := by decide +kernel
theorem dX11_init_420 : decode cX11_init 420 = .ok (.bipush 44, 2) := by decide +kernel
theorem dX11_init_422 : decode cX11_init 422 = .ok (.bipush 45, 2) := by decide +kernel
theorem dX11_init_424 : decode cX11_init 424 = .ok (.bipush 97, 2) := by decide +kernel
theorem dX11_init_426 : decode cX11_init 426 = .ok (.bipush 59, 2) := by decide +kernel
theorem dX11_init_428 : decode cX11_init 428 = .ok (.bipush 97, 2) := by decide +kernel
theorem dX11_init_430 : decode cX11_init 430 = .ok (.invokevirtual 106, 3) := by decide +kernel
theorem dX11_init_433 : decode cX11_init 433 = .ok (.aload_n 0, 1) := by decide +kernel
theorem dX11_init_434 : decode cX11_init 434 = .ok (.bipush 97, 2) := by decide +kernel
theorem dX11_init_436 : decode cX11_init 436 = .ok (.bipush 100, 2) := by decide +kernel
theorem dX11_init_438 : decode cX11_init 438 = .ok (.bipush 58, 2) := by decide +kernel
theorem dX11_init_440 : decode cX11_init 440 = .ok (.bipush 55, 2) := by decide +kernel
theorem dX11_init_442 : decode cX11_init 442 = .ok (.bipush 44, 2) := by decide +kernel
theorem dX11_init_444 : decode cX11_init 444 = .ok (.invokevirtual 106, 3) := by decide +kernel
theorem dX11_init_447 : decode cX11_init 447 = .ok (.aload_n 0, 1) := by decide +kernel
theorem dX11_init_448 : decode cX11_init 448 = .ok (.bipush 50, 2) := by decide +kernel
theorem dX11_init_450 : decode cX11_init 450 = .ok (.bipush 48, 2) := by decide +kernel
theorem dX11_init_452 : decode cX11_init 452 = .ok (.bipush 48, 2) := by decide +kernel
theorem dX11_init_454 : decode cX11_init 454 = .ok (.bipush 59, 2) := by decide +kernel
theorem dX11_init_456 : decode cX11_init 456 = .ok (.bipush 120, 2) := by decide +kernel
theorem dX11_init_458 : decode cX11_init 458 = .ok (.invokevirtual 106, 3) := by decide +kernel
theorem dX11_init_461 : decode cX11_init 461 = .ok (.aload_n 0, 1) := by decide +kernel
theorem dX11_init_462 : decode cX11_init 462 = .ok (.bipush 97, 2) := by decide +kernel
theorem dX11_init_464 : decode cX11_init 464 = .ok (.bipush 98, 2) := by decide +kernel
theorem dX11_init_466 : decode cX11_init 466 = .ok (.bipush 58, 2) := by decide +kernel
theorem dX11_init_468 : decode cX11_init 468 = .ok (.bipush 97, 2) := by decide +kernel
theorem dX11_init_470 : decode cX11_init 470 = .ok (.bipush 100, 2) := by decide +kernel
theorem dX11_init_472 : decode cX11_init 472 = .ok (.invokevirtual 106, 3) := by decide +kernel
theorem dX11_init_475 : decode cX11_init 475 = .ok (.aload_n 0, 1) := by decide +kernel
theorem dX11_init_476 : decode cX11_init 476 = .ok (.bipush 44, 2) := by decide +kernel
theorem dX11_init_478 : decode cX11_init 478 = .ok (.bipush 101, 2) := by decide +kernel
theorem dX11_init_480 : decode cX11_init 480 = .ok (.bipush 98, 2) := by decide +kernel
theorem dX11_init_482 : decode cX11_init 482 = .ok (.bipush 59, 2) := by decide +kernel
theorem dX11_init_484 : decode cX11_init 484 = .ok (.bipush 97, 2) := by decide +kernel
theorem dX11_init_486 : decode cX11_init 486 = .ok (.invokevirtual 106, 3) := by decide +kernel
theorem dX11_init_489 : decode cX11_init 489 = .ok (.aload_n 0, 1) := by decide +kernel
theorem dX11_init_490 : decode cX11_init 490 = .ok (.bipush 97, 2) := by decide +kernel
theorem dX11_init_492 : decode cX11_init 492 = .ok (.bipush 98, 2) := by decide +kernel
theorem dX11_init_494 : decode cX11_init 494 = .ok (.bipush 58, 2) := by decide +kernel
theorem dX11_init_496 : decode cX11_init 496 = .ok (.bipush 57, 2) := by decide +kernel
theorem dX11_init_498 : decode cX11_init 498 = .ok (.bipush 59, 2) := by decide +kernel
theorem dX11_init_500 : decode cX11_init 500 = .ok (.invokevirtual 106, 3) := by decide +kernel
theorem dX11_init_503 : decode cX11_init 503 = .ok (.aload_n 0, 1) := by decide +kernel
theorem dX11_init_504 : decode cX11_init 504 = .ok (.bipush 97, 2) := by decide +kernel
theorem dX11_init_506 : decode cX11_init 506 = .ok (.bipush 101, 2) := by decide +kernel
theorem dX11_init_508 : decode cX11_init 508 = .ok (.bipush 98, 2) := by decide +kernel
theorem dX11_init_510 : decode cX11_init 510 = .ok (.bipush 98, 2) := by decide +kernel
theorem dX11_init_512 : decode cX11_init 512 = .ok (.bipush 58, 2) := by decide +kernel
theorem dX11_init_514 : decode cX11_init 514 = .ok (.invokevirtual 106, 3) := by decide +kernel
theorem dX11_init_517 : decode cX11_init 517 = .ok (.aload_n 0, 1) := by decide +kernel
theorem dX11_init_518 : decode cX11_init 518 = .ok (.bipush 49, 2) := by decide +kernel
theorem dX11_init_520 : decode cX11_init 520 = .ok (.bipush 59, 2) := by decide +kernel
theorem dX11_init_522 : decode cX11_init 522 = .ok (.iconst 0, 1) := by decide +kernel
theorem dX11_init_523 : decode cX11_init 523 = .ok (.iconst 0, 1) := by decide +kernel
theorem dX11_init_524 : decode cX11_init 524 = .ok (.iconst 0, 1) := by decide +kernel
theorem dX11_init_525 : decode cX11_init 525 = .ok (.invokevirtual 106, 3) := by decide +kernel
theorem dX11_init_528 : decode cX11_init 528 = .ok (.aload_n 0, 1) := by decide +kernel
theorem dX11_init_529 : decode cX11_init 529 = .ok (.invokevirtual 110, 3) := by decide +kernel
theorem dX11_init_532 : decode cX11_init 532 = .ok (.pop, 1) := by decide +kernel
theorem dX11_init_533 : decode cX11_init 533 = .ok (.aload_n 0, 1) := by decide +kernel
theorem dX11_init_534 : decode cX11_init 534 = .ok (.iconst 0, 1) := by decide +kernel
theorem dX11_init_535 : decode cX11_init 535 = .ok (.putfield 114, 3) := by decide +kernel
theorem dX11_init_538 : decode cX11_init 538 = .ok (.return_, 1) := by decide +kernel
theorem dX11_tells_0 : decode cX11_tells 0 = .ok (.aload_n 0, 1) := by decide +kernel
theorem dX11_tells_1 : decode cX11_tells 1 = .ok (.iload_n 1, 1) := by decide +kernel
theorem dX11_tells_2 : decode cX11_tells 2 = .ok (.invokevirtual 118, 3) := by decide +kernel
theorem dX11_tells_5 : decode cX11_tells 5 = .ok (.pop, 1) := by decide +kernel
theorem dX11_tells_6 : decode cX11_tells 6 = .ok (.aload_n 0, 1) := by decide +kernel
theorem dX11_tells_7 : decode cX11_tells 7 = .ok (.iload_n 2, 1) := by decide +kernel
theorem dX11_tells_8 : decode cX11_tells 8 = .ok (.invokevirtual 118, 3) := by decide +kernel
theorem dX11_tells_11 : decode cX11_tells 11 = .ok (.pop, 1) := by decide +kernel
theorem dX11_tells_12 : decode cX11_tells 12 = .ok (.aload_n 0, 1) := by decide +kernel
theorem dX11_tells_13 : decode cX11_tells 13 = .ok (.iload_n 3, 1) := by decide +kernel
theorem dX11_tells_14 : decode cX11_tells 14 = .ok (.invokevirtual 118, 3) := by decide +kernel
theorem dX11_tells_17 : decode cX11_tells 17 = .ok (.pop, 1) := by decide +kernel
theorem dX11_tells_18 : decode cX11_tells 18 = .ok (.aload_n 0, 1) := by decide +kernel
theorem dX11_tells_19 : decode cX11_tells 19 = .ok (.iload 4, 2) := by decide +kernel
theorem dX11_tells_21 : decode cX11_tells 21 = .ok (.invokevirtual 118, 3) := by decide +kernel
theorem dX11_tells_24 : decode cX11_tells 24 = .ok (.pop, 1) := by decide +kernel
theorem dX11_tells_25 : decode cX11_tells 25 = .ok (.aload_n 0, 1) := by decide +kernel
theorem dX11_tells_26 : decode cX11_tells 26 = .ok (.iload 5, 2) := by decide +kernel
theorem dX11_tells_28 : decode cX11_tells 28 = .ok (.invokevirtual 118, 3) := by decide +kernel
theorem dX11_tells_31 : decode cX11_tells 31 = .ok (.pop, 1) := by decide +kernel
theorem dX11_tells_32 : decode cX11_tells 32 = .ok (.return_, 1) := by decide +kernel
theorem dX11_isIn_0 : decode cX11_isIn 0 = .ok (.iload_n 0, 1) := by decide +kernel
theorem dX11_isIn_1 : decode cX11_isIn 1 = .ok (.iload_n 1, 1) := by decide +kernel
theorem dX11_isIn_2 : decode cX11_isIn 2 = .ok (.if_icmp .lt 12, 3) := by decide +kernel
theorem dX11_isIn_5 : decode cX11_isIn 5 = .ok (.iload_n 0, 1) := by decide +kernel
theorem dX11_isIn_6 : decode cX11_isIn 6 = .ok (.iload_n 2, 1) := by decide +kernel
theorem dX11_isIn_7 : decode cX11_isIn 7 = .ok (.if_icmp .gt 7, 3) := by decide +kernel
theorem dX11_isIn_10 : decode cX11_isIn 10 = .ok (.iconst 1, 1) := by decide +kernel
theorem dX11_isIn_11 : decode cX11_isIn 11 = .ok (.goto 4, 3) := by decide +kernel
theorem dX11_isIn_14 : decode cX11_isIn 14 = .ok (.iconst 0, 1) := by decide +kernel
theorem dX11_isIn_15 : decode cX11_isIn 15 = .ok (.ireturn, 1) := by decide +kernel
theorem dX11_longer_0 : decode cX11_longer 0 = .ok (.iload_n 1, 1) := by decide +kernel
theorem dX11_longer_1 : decode cX11_longer 1 = .ok (.iconst 1, 1) := by decide +kernel
theorem dX11_longer_2 : decode cX11_longer 2 = .ok (.iadd, 1) := by decide +kernel
theorem dX11_longer_3 : decode cX11_longer 3 = .ok (.ldc 122, 2) := by decide +kernel
theorem dX11_longer_5 : decode cX11_longer 5 = .ok (.imul, 1) := by decide +kernel
theorem dX11_longer_6 : decode cX11_longer 6 = .ok (.iload_n 0, 1) := by decide +kernel
theorem dX11_longer_7 : decode cX11_longer 7 = .ok (.bipush 17, 2) := by decide +kernel
theorem dX11_longer_9 : decode cX11_longer 9 = .ok (.idiv, 1) := by decide +kernel
theorem dX11_longer_10 : decode cX11_longer 10 = .ok (.iadd, 1) := by decide +kernel
theorem dX11_longer_11 : decode cX11_longer 11 = .ok (.ireturn, 1) := by decide +kernel
theorem dX11_lettersOf_0 : decode cX11_lettersOf 0 = .ok (.iconst 0, 1) := by decide +kernel
theorem dX11_lettersOf_1 : decode cX11_lettersOf 1 = .ok (.istore_n 1, 1) := by decide +kernel
theorem dX11_lettersOf_2 : decode cX11_lettersOf 2 = .ok (.ldc 122, 2) := by decide +kernel
theorem dX11_lettersOf_4 : decode cX11_lettersOf 4 = .ok (.istore_n 2, 1) := by decide +kernel
theorem dX11_lettersOf_5 : decode cX11_lettersOf 5 = .ok (.iload_n 1, 1) := by decide +kernel
theorem dX11_lettersOf_6 : decode cX11_lettersOf 6 = .ok (.bipush 7, 2) := by decide +kernel
theorem dX11_lettersOf_8 : decode cX11_lettersOf 8 = .ok (.if_icmp .ge 32, 3) := by decide +kernel
theorem dX11_lettersOf_11 : decode cX11_lettersOf 11 = .ok (.iload_n 0, 1) := by decide +kernel
theorem dX11_lettersOf_12 : decode cX11_lettersOf 12 = .ok (.iload_n 2, 1) := by decide +kernel
theorem dX11_lettersOf_13 : decode cX11_lettersOf 13 = .ok (.idiv, 1) := by decide +kernel
theorem dX11_lettersOf_14 : decode cX11_lettersOf 14 = .ok (.bipush 17, 2) := by decide +kernel
theorem dX11_lettersOf_16 : decode cX11_lettersOf 16 = .ok (.irem, 1) := by decide +kernel
theorem dX11_lettersOf_17 : decode cX11_lettersOf 17 = .ok (.ifCond .le 23, 3) := by decide +kernel
theorem dX11_lettersOf_20 : decode cX11_lettersOf 20 = .ok (.iinc 1 1, 3) := by decide +kernel
theorem dX11_lettersOf_23 : decode cX11_lettersOf 23 = .ok (.iload_n 2, 1) := by decide +kernel
theorem dX11_lettersOf_24 : decode cX11_lettersOf 24 = .ok (.iconst 1, 1) := by decide +kernel
theorem dX11_lettersOf_25 : decode cX11_lettersOf 25 = .ok (.if_icmp .le 10, 3) := by decide +kernel
theorem dX11_lettersOf_28 : decode cX11_lettersOf 28 = .ok (.iload_n 2, 1) := by decide +kernel
theorem dX11_lettersOf_29 : decode cX11_lettersOf 29 = .ok (.bipush 17, 2) := by decide +kernel
theorem dX11_lettersOf_31 : decode cX11_lettersOf 31 = .ok (.idiv, 1) := by decide +kernel
theorem dX11_lettersOf_32 : decode cX11_lettersOf 32 = .ok (.goto 4, 3) := by decide +kernel
theorem dX11_lettersOf_35 : decode cX11_lettersOf 35 = .ok (.iconst 1, 1) := by decide +kernel
theorem dX11_lettersOf_36 : decode cX11_lettersOf 36 = .ok (.istore_n 2, 1) := by decide +kernel
theorem dX11_lettersOf_37 : decode cX11_lettersOf 37 = .ok (.goto (-32), 3) := by decide +kernel
theorem dX11_lettersOf_40 : decode cX11_lettersOf 40 = .ok (.iload_n 1, 1) := by decide +kernel
theorem dX11_lettersOf_41 : decode cX11_lettersOf 41 = .ok (.ireturn, 1) := by decide +kernel
theorem dX11_fromLast_0 : decode cX11_fromLast 0 = .ok (.ldc 122, 2) := by decide +kernel
theorem dX11_fromLast_2 : decode cX11_fromLast 2 = .ok (.istore_n 2, 1) := by decide +kernel
theorem dX11_fromLast_3 : decode cX11_fromLast 3 = .ok (.iconst 0, 1) := by decide +kernel
theorem dX11_fromLast_4 : decode cX11_fromLast 4 = .ok (.istore_n 3, 1) := by decide +kernel
theorem dX11_fromLast_5 : decode cX11_fromLast 5 = .ok (.iload_n 3, 1) := by decide +kernel
theorem dX11_fromLast_6 : decode cX11_fromLast 6 = .ok (.iload_n 1, 1) := by decide +kernel
theorem dX11_fromLast_7 : decode cX11_fromLast 7 = .ok (.if_icmp .ge 14, 3) := by decide +kernel
theorem dX11_fromLast_10 : decode cX11_fromLast 10 = .ok (.iload_n 2, 1) := by decide +kernel
theorem dX11_fromLast_11 : decode cX11_fromLast 11 = .ok (.bipush 17, 2) := by decide +kernel
theorem dX11_fromLast_13 : decode cX11_fromLast 13 = .ok (.idiv, 1) := by decide +kernel
theorem dX11_fromLast_14 : decode cX11_fromLast 14 = .ok (.istore_n 2, 1) := by decide +kernel
theorem dX11_fromLast_15 : decode cX11_fromLast 15 = .ok (.iinc 3 1, 3) := by decide +kernel
theorem dX11_fromLast_18 : decode cX11_fromLast 18 = .ok (.goto (-13), 3) := by decide +kernel
theorem dX11_fromLast_21 : decode cX11_fromLast 21 = .ok (.iload_n 0, 1) := by decide +kernel
theorem dX11_fromLast_22 : decode cX11_fromLast 22 = .ok (.iload_n 2, 1) := by decide +kernel
theorem dX11_fromLast_23 : decode cX11_fromLast 23 = .ok (.idiv, 1) := by decide +kernel
theorem dX11_fromLast_24 : decode cX11_fromLast 24 = .ok (.bipush 17, 2) := by decide +kernel
theorem dX11_fromLast_26 : decode cX11_fromLast 26 = .ok (.irem, 1) := by decide +kernel
theorem dX11_fromLast_27 : decode cX11_fromLast 27 = .ok (.iconst 1, 1) := by decide +kernel
theorem dX11_fromLast_28 : decode cX11_fromLast 28 = .ok (.isub, 1) := by decide +kernel
theorem dX11_fromLast_29 : decode cX11_fromLast 29 = .ok (.ireturn, 1) := by decide +kernel
theorem dX11_numberOf_0 : decode cX11_numberOf 0 = .ok (.iconst 0, 1) := by decide +kernel
theorem dX11_numberOf_1 : decode cX11_numberOf 1 = .ok (.istore_n 2, 1) := by decide +kernel
theorem dX11_numberOf_2 : decode cX11_numberOf 2 = .ok (.iload_n 2, 1) := by decide +kernel
theorem dX11_numberOf_3 : decode cX11_numberOf 3 = .ok (.aload_n 0, 1) := by decide +kernel
theorem dX11_numberOf_4 : decode cX11_numberOf 4 = .ok (.getfield 123, 3) := by decide +kernel
theorem dX11_numberOf_7 : decode cX11_numberOf 7 = .ok (.if_icmp .ge 21, 3) := by decide +kernel
theorem dX11_numberOf_10 : decode cX11_numberOf 10 = .ok (.aload_n 0, 1) := by decide +kernel
theorem dX11_numberOf_11 : decode cX11_numberOf 11 = .ok (.getfield 13, 3) := by decide +kernel
theorem dX11_numberOf_14 : decode cX11_numberOf 14 = .ok (.iload_n 2, 1) := by decide +kernel
theorem dX11_numberOf_15 : decode cX11_numberOf 15 = .ok (.iaload, 1) := by decide +kernel
theorem dX11_numberOf_16 : decode cX11_numberOf 16 = .ok (.iload_n 1, 1) := by decide +kernel
theorem dX11_numberOf_17 : decode cX11_numberOf 17 = .ok (.if_icmp .ne 5, 3) := by decide +kernel
theorem dX11_numberOf_20 : decode cX11_numberOf 20 = .ok (.iload_n 2, 1) := by decide +kernel
theorem dX11_numberOf_21 : decode cX11_numberOf 21 = .ok (.ireturn, 1) := by decide +kernel
theorem dX11_numberOf_22 : decode cX11_numberOf 22 = .ok (.iinc 2 1, 3) := by decide +kernel
theorem dX11_numberOf_25 : decode cX11_numberOf 25 = .ok (.goto (-23), 3) := by decide +kernel
theorem dX11_numberOf_28 : decode cX11_numberOf 28 = .ok (.bipush (-4), 2) := by decide +kernel
theorem dX11_numberOf_30 : decode cX11_numberOf 30 = .ok (.ireturn, 1) := by decide +kernel
theorem dX11_next_0 : decode cX11_next 0 = .ok (.aload_n 0, 1) := by decide +kernel
theorem dX11_next_1 : decode cX11_next 1 = .ok (.getfield 126, 3) := by decide +kernel
theorem dX11_next_4 : decode cX11_next 4 = .ok (.aload_n 0, 1) := by decide +kernel
theorem dX11_next_5 : decode cX11_next 5 = .ok (.getfield 114, 3) := by decide +kernel
theorem dX11_next_8 : decode cX11_next 8 = .ok (.if_icmp .ge 15, 3) := by decide +kernel
theorem dX11_next_11 : decode cX11_next 11 = .ok (.aload_n 0, 1) := by decide +kernel
theorem dX11_next_12 : decode cX11_next 12 = .ok (.getfield 7, 3) := by decide +kernel
theorem dX11_next_15 : decode cX11_next 15 = .ok (.aload_n 0, 1) := by decide +kernel
theorem dX11_next_16 : decode cX11_next 16 = .ok (.getfield 126, 3) := by decide +kernel
theorem dX11_next_19 : decode cX11_next 19 = .ok (.iaload, 1) := by decide +kernel
theorem dX11_next_20 : decode cX11_next 20 = .ok (.goto 4, 3) := by decide +kernel
theorem dX11_next_23 : decode cX11_next 23 = .ok (.iconst 0, 1) := by decide +kernel
theorem dX11_next_24 : decode cX11_next 24 = .ok (.ireturn, 1) := by decide +kernel
theorem dX11_comes_0 : decode cX11_comes 0 = .ok (.aload_n 0, 1) := by decide +kernel
theorem dX11_comes_1 : decode cX11_comes 1 = .ok (.invokevirtual 129, 3) := by decide +kernel
theorem dX11_comes_4 : decode cX11_comes 4 = .ok (.iload_n 1, 1) := by decide +kernel
theorem dX11_comes_5 : decode cX11_comes 5 = .ok (.if_icmp .ne 7, 3) := by decide +kernel
theorem dX11_comes_8 : decode cX11_comes 8 = .ok (.iconst 1, 1) := by decide +kernel
theorem dX11_comes_9 : decode cX11_comes 9 = .ok (.goto 4, 3) := by decide +kernel
theorem dX11_comes_12 : decode cX11_comes 12 = .ok (.iconst 0, 1) := by decide +kernel
theorem dX11_comes_13 : decode cX11_comes 13 = .ok (.istore_n 2, 1) := by decide +kernel
theorem dX11_comes_14 : decode cX11_comes 14 = .ok (.aload_n 0, 1) := by decide +kernel
theorem dX11_comes_15 : decode cX11_comes 15 = .ok (.dup, 1) := by decide +kernel
theorem dX11_comes_16 : decode cX11_comes 16 = .ok (.getfield 126, 3) := by decide +kernel
theorem dX11_comes_19 : decode cX11_comes 19 = .ok (.iload_n 2, 1) := by decide +kernel
theorem dX11_comes_20 : decode cX11_comes 20 = .ok (.ifCond .eq 7, 3) := by decide +kernel
theorem dX11_comes_23 : decode cX11_comes 23 = .ok (.iconst 1, 1) := by decide +kernel
theorem dX11_comes_24 : decode cX11_comes 24 = .ok (.goto 4, 3) := by decide +kernel
theorem dX11_comes_27 : decode cX11_comes 27 = .ok (.iconst 0, 1) := by decide +kernel
theorem dX11_comes_28 : decode cX11_comes 28 = .ok (.iadd, 1) := by decide +kernel
theorem dX11_comes_29 : decode cX11_comes 29 = .ok (.putfield 126, 3) := by decide +kernel
theorem dX11_comes_32 : decode cX11_comes 32 = .ok (.iload_n 2, 1) := by decide +kernel
theorem dX11_comes_33 : decode cX11_comes 33 = .ok (.ireturn, 1) := by decide +kernel
theorem dX11_readsName_0 : decode cX11_readsName 0 = .ok (.iconst 0, 1) := by decide +kernel
theorem dX11_readsName_1 : decode cX11_readsName 1 = .ok (.istore_n 1, 1) := by decide +kernel
theorem dX11_readsName_2 : decode cX11_readsName 2 = .ok (.aload_n 0, 1) := by decide +kernel
theorem dX11_readsName_3 : decode cX11_readsName 3 = .ok (.iconst 0, 1) := by decide +kernel
theorem dX11_readsName_4 : decode cX11_readsName 4 = .ok (.putfield 132, 3) := by decide +kernel
theorem dX11_readsName_7 : decode cX11_readsName 7 = .ok (.aload_n 0, 1) := by decide +kernel
theorem dX11_readsName_8 : decode cX11_readsName 8 = .ok (.invokevirtual 129, 3) := by decide +kernel
theorem dX11_readsName_11 : decode cX11_readsName 11 = .ok (.bipush 97, 2) := by decide +kernel
theorem dX11_readsName_13 : decode cX11_readsName 13 = .ok (.bipush 112, 2) := by decide +kernel
theorem dX11_readsName_15 : decode cX11_readsName 15 = .ok (.invokestatic 135, 3) := by decide +kernel
theorem dX11_readsName_18 : decode cX11_readsName 18 = .ok (.ifCond .eq 43, 3) := by decide +kernel
theorem dX11_readsName_21 : decode cX11_readsName 21 = .ok (.iload_n 1, 1) := by decide +kernel
theorem dX11_readsName_22 : decode cX11_readsName 22 = .ok (.bipush 8, 2) := by decide +kernel
theorem dX11_readsName_24 : decode cX11_readsName 24 = .ok (.if_icmp .ge 37, 3) := by decide +kernel
theorem dX11_readsName_27 : decode cX11_readsName 27 = .ok (.aload_n 0, 1) := by decide +kernel
theorem dX11_readsName_28 : decode cX11_readsName 28 = .ok (.aload_n 0, 1) := by decide +kernel
theorem dX11_readsName_29 : decode cX11_readsName 29 = .ok (.getfield 132, 3) := by decide +kernel
theorem dX11_readsName_32 : decode cX11_readsName 32 = .ok (.aload_n 0, 1) := by decide +kernel
theorem dX11_readsName_33 : decode cX11_readsName 33 = .ok (.invokevirtual 129, 3) := by decide +kernel
theorem dX11_readsName_36 : decode cX11_readsName 36 = .ok (.bipush 97, 2) := by decide +kernel
theorem dX11_readsName_38 : decode cX11_readsName 38 = .ok (.isub, 1) := by decide +kernel
theorem dX11_readsName_39 : decode cX11_readsName 39 = .ok (.invokestatic 139, 3) := by decide +kernel
theorem dX11_readsName_42 : decode cX11_readsName 42 = .ok (.putfield 132, 3) := by decide +kernel
theorem dX11_readsName_45 : decode cX11_readsName 45 = .ok (.aload_n 0, 1) := by decide +kernel
theorem dX11_readsName_46 : decode cX11_readsName 46 = .ok (.dup, 1) := by decide +kernel
theorem dX11_readsName_47 : decode cX11_readsName 47 = .ok (.getfield 126, 3) := by decide +kernel
theorem dX11_readsName_50 : decode cX11_readsName 50 = .ok (.iconst 1, 1) := by decide +kernel
theorem dX11_readsName_51 : decode cX11_readsName 51 = .ok (.iadd, 1) := by decide +kernel
theorem dX11_readsName_52 : decode cX11_readsName 52 = .ok (.putfield 126, 3) := by decide +kernel
theorem dX11_readsName_55 : decode cX11_readsName 55 = .ok (.iinc 1 1, 3) := by decide +kernel
theorem dX11_readsName_58 : decode cX11_readsName 58 = .ok (.goto (-51), 3) := by decide +kernel
theorem dX11_readsName_61 : decode cX11_readsName 61 = .ok (.iload_n 1, 1) := by decide +kernel
theorem dX11_readsName_62 : decode cX11_readsName 62 = .ok (.iconst 1, 1) := by decide +kernel
theorem dX11_readsName_63 : decode cX11_readsName 63 = .ok (.bipush 7, 2) := by decide +kernel
theorem dX11_readsName_65 : decode cX11_readsName 65 = .ok (.invokestatic 135, 3) := by decide +kernel
theorem dX11_readsName_68 : decode cX11_readsName 68 = .ok (.ireturn, 1) := by decide +kernel
theorem dX11_number_0 : decode cX11_number 0 = .ok (.iconst 0, 1) := by decide +kernel
theorem dX11_number_1 : decode cX11_number 1 = .ok (.istore_n 2, 1) := by decide +kernel
theorem dX11_number_2 : decode cX11_number 2 = .ok (.aload_n 0, 1) := by decide +kernel
theorem dX11_number_3 : decode cX11_number 3 = .ok (.iconst 0, 1) := by decide +kernel
theorem dX11_number_4 : decode cX11_number 4 = .ok (.putfield 132, 3) := by decide +kernel
theorem dX11_number_7 : decode cX11_number 7 = .ok (.aload_n 0, 1) := by decide +kernel
theorem dX11_number_8 : decode cX11_number 8 = .ok (.invokevirtual 129, 3) := by decide +kernel
theorem dX11_number_11 : decode cX11_number 11 = .ok (.bipush 48, 2) := by decide +kernel
theorem dX11_number_13 : decode cX11_number 13 = .ok (.bipush 57, 2) := by decide +kernel
theorem dX11_number_15 : decode cX11_number 15 = .ok (.invokestatic 135, 3) := by decide +kernel
theorem dX11_number_18 : decode cX11_number 18 = .ok (.ifCond .eq 43, 3) := by decide +kernel
theorem dX11_number_21 : decode cX11_number 21 = .ok (.iload_n 2, 1) := by decide +kernel
theorem dX11_number_22 : decode cX11_number 22 = .ok (.iconst 3, 1) := by decide +kernel
theorem dX11_number_23 : decode cX11_number 23 = .ok (.if_icmp .ge 38, 3) := by decide +kernel
theorem dX11_number_26 : decode cX11_number 26 = .ok (.aload_n 0, 1) := by decide +kernel
theorem dX11_number_27 : decode cX11_number 27 = .ok (.bipush 10, 2) := by decide +kernel
theorem dX11_number_29 : decode cX11_number 29 = .ok (.aload_n 0, 1) := by decide +kernel
theorem dX11_number_30 : decode cX11_number 30 = .ok (.getfield 132, 3) := by decide +kernel
theorem dX11_number_33 : decode cX11_number 33 = .ok (.imul, 1) := by decide +kernel
theorem dX11_number_34 : decode cX11_number 34 = .ok (.aload_n 0, 1) := by decide +kernel
theorem dX11_number_35 : decode cX11_number 35 = .ok (.invokevirtual 129, 3) := by decide +kernel
theorem dX11_number_38 : decode cX11_number 38 = .ok (.iadd, 1) := by decide +kernel
theorem dX11_number_39 : decode cX11_number 39 = .ok (.bipush 48, 2) := by decide +kernel
theorem dX11_number_41 : decode cX11_number 41 = .ok (.isub, 1) := by decide +kernel
theorem dX11_number_42 : decode cX11_number 42 = .ok (.putfield 132, 3) := by decide +kernel
theorem dX11_number_45 : decode cX11_number 45 = .ok (.aload_n 0, 1) := by decide +kernel
theorem dX11_number_46 : decode cX11_number 46 = .ok (.dup, 1) := by decide +kernel
theorem dX11_number_47 : decode cX11_number 47 = .ok (.getfield 126, 3) := by decide +kernel
theorem dX11_number_50 : decode cX11_number 50 = .ok (.iconst 1, 1) := by decide +kernel
theorem dX11_number_51 : decode cX11_number 51 = .ok (.iadd, 1) := by decide +kernel
theorem dX11_number_52 : decode cX11_number 52 = .ok (.putfield 126, 3) := by decide +kernel
theorem dX11_number_55 : decode cX11_number 55 = .ok (.iinc 2 1, 3) := by decide +kernel
theorem dX11_number_58 : decode cX11_number 58 = .ok (.goto (-51), 3) := by decide +kernel
theorem dX11_number_61 : decode cX11_number 61 = .ok (.iload_n 2, 1) := by decide +kernel
theorem dX11_number_62 : decode cX11_number 62 = .ok (.ifCond .le 15, 3) := by decide +kernel
theorem dX11_number_65 : decode cX11_number 65 = .ok (.aload_n 0, 1) := by decide +kernel
theorem dX11_number_66 : decode cX11_number 66 = .ok (.getfield 132, 3) := by decide +kernel
theorem dX11_number_69 : decode cX11_number 69 = .ok (.iload_n 1, 1) := by decide +kernel
theorem dX11_number_70 : decode cX11_number 70 = .ok (.if_icmp .gt 7, 3) := by decide +kernel
theorem dX11_number_73 : decode cX11_number 73 = .ok (.iconst 1, 1) := by decide +kernel
theorem dX11_number_74 : decode cX11_number 74 = .ok (.goto 4, 3) := by decide +kernel
theorem dX11_number_77 : decode cX11_number 77 = .ok (.iconst 0, 1) := by decide +kernel
theorem dX11_number_78 : decode cX11_number 78 = .ok (.ireturn, 1) := by decide +kernel
theorem dX11_slotOf_0 : decode cX11_slotOf 0 = .ok (.iconst 0, 1) := by decide +kernel
theorem dX11_slotOf_1 : decode cX11_slotOf 1 = .ok (.istore_n 2, 1) := by decide +kernel
theorem dX11_slotOf_2 : decode cX11_slotOf 2 = .ok (.iload_n 2, 1) := by decide +kernel
theorem dX11_slotOf_3 : decode cX11_slotOf 3 = .ok (.aload_n 0, 1) := by decide +kernel
theorem dX11_slotOf_4 : decode cX11_slotOf 4 = .ok (.getfield 143, 3) := by decide +kernel
theorem dX11_slotOf_7 : decode cX11_slotOf 7 = .ok (.if_icmp .ge 21, 3) := by decide +kernel
theorem dX11_slotOf_10 : decode cX11_slotOf 10 = .ok (.aload_n 0, 1) := by decide +kernel
theorem dX11_slotOf_11 : decode cX11_slotOf 11 = .ok (.getfield 52, 3) := by decide +kernel
theorem dX11_slotOf_14 : decode cX11_slotOf 14 = .ok (.iload_n 2, 1) := by decide +kernel
theorem dX11_slotOf_15 : decode cX11_slotOf 15 = .ok (.iaload, 1) := by decide +kernel
theorem dX11_slotOf_16 : decode cX11_slotOf 16 = .ok (.iload_n 1, 1) := by decide +kernel
theorem dX11_slotOf_17 : decode cX11_slotOf 17 = .ok (.if_icmp .ne 5, 3) := by decide +kernel
theorem dX11_slotOf_20 : decode cX11_slotOf 20 = .ok (.iload_n 2, 1) := by decide +kernel
theorem dX11_slotOf_21 : decode cX11_slotOf 21 = .ok (.ireturn, 1) := by decide +kernel
theorem dX11_slotOf_22 : decode cX11_slotOf 22 = .ok (.iinc 2 1, 3) := by decide +kernel
theorem dX11_slotOf_25 : decode cX11_slotOf 25 = .ok (.goto (-23), 3) := by decide +kernel
theorem dX11_slotOf_28 : decode cX11_slotOf 28 = .ok (.aload_n 0, 1) := by decide +kernel
theorem dX11_slotOf_29 : decode cX11_slotOf 29 = .ok (.getfield 143, 3) := by decide +kernel
theorem dX11_slotOf_32 : decode cX11_slotOf 32 = .ok (.bipush 12, 2) := by decide +kernel
theorem dX11_slotOf_34 : decode cX11_slotOf 34 = .ok (.if_icmp .ne 6, 3) := by decide +kernel
theorem dX11_slotOf_37 : decode cX11_slotOf 37 = .ok (.bipush (-4), 2) := by decide +kernel
theorem dX11_slotOf_39 : decode cX11_slotOf 39 = .ok (.ireturn, 1) := by decide +kernel
theorem dX11_slotOf_40 : decode cX11_slotOf 40 = .ok (.aload_n 0, 1) := by decide +kernel
theorem dX11_slotOf_41 : decode cX11_slotOf 41 = .ok (.getfield 52, 3) := by decide +kernel
theorem dX11_slotOf_44 : decode cX11_slotOf 44 = .ok (.aload_n 0, 1) := by decide +kernel
theorem dX11_slotOf_45 : decode cX11_slotOf 45 = .ok (.getfield 143, 3) := by decide +kernel
theorem dX11_slotOf_48 : decode cX11_slotOf 48 = .ok (.iload_n 1, 1) := by decide +kernel
theorem dX11_slotOf_49 : decode cX11_slotOf 49 = .ok (.iastore, 1) := by decide +kernel
theorem dX11_slotOf_50 : decode cX11_slotOf 50 = .ok (.aload_n 0, 1) := by decide +kernel
theorem dX11_slotOf_51 : decode cX11_slotOf 51 = .ok (.getfield 55, 3) := by decide +kernel
theorem dX11_slotOf_54 : decode cX11_slotOf 54 = .ok (.aload_n 0, 1) := by decide +kernel
theorem dX11_slotOf_55 : decode cX11_slotOf 55 = .ok (.getfield 143, 3) := by decide +kernel
theorem dX11_slotOf_58 : decode cX11_slotOf 58 = .ok (.iconst 0, 1) := by decide +kernel
theorem dX11_slotOf_59 : decode cX11_slotOf 59 = .ok (.iastore, 1) := by decide +kernel
theorem dX11_slotOf_60 : decode cX11_slotOf 60 = .ok (.aload_n 0, 1) := by decide +kernel
theorem dX11_slotOf_61 : decode cX11_slotOf 61 = .ok (.getfield 58, 3) := by decide +kernel
theorem dX11_slotOf_64 : decode cX11_slotOf 64 = .ok (.aload_n 0, 1) := by decide +kernel
theorem dX11_slotOf_65 : decode cX11_slotOf 65 = .ok (.getfield 143, 3) := by decide +kernel
theorem dX11_slotOf_68 : decode cX11_slotOf 68 = .ok (.iconst 0, 1) := by decide +kernel
theorem dX11_slotOf_69 : decode cX11_slotOf 69 = .ok (.iastore, 1) := by decide +kernel
theorem dX11_slotOf_70 : decode cX11_slotOf 70 = .ok (.aload_n 0, 1) := by decide +kernel
theorem dX11_slotOf_71 : decode cX11_slotOf 71 = .ok (.getfield 61, 3) := by decide +kernel
theorem dX11_slotOf_74 : decode cX11_slotOf 74 = .ok (.aload_n 0, 1) := by decide +kernel
theorem dX11_slotOf_75 : decode cX11_slotOf 75 = .ok (.getfield 143, 3) := by decide +kernel
theorem dX11_slotOf_78 : decode cX11_slotOf 78 = .ok (.iconst 0, 1) := by decide +kernel
theorem dX11_slotOf_79 : decode cX11_slotOf 79 = .ok (.iastore, 1) := by decide +kernel
theorem dX11_slotOf_80 : decode cX11_slotOf 80 = .ok (.aload_n 0, 1) := by decide +kernel
theorem dX11_slotOf_81 : decode cX11_slotOf 81 = .ok (.getfield 88, 3) := by decide +kernel
theorem dX11_slotOf_84 : decode cX11_slotOf 84 = .ok (.aload_n 0, 1) := by decide +kernel
theorem dX11_slotOf_85 : decode cX11_slotOf 85 = .ok (.getfield 143, 3) := by decide +kernel
theorem dX11_slotOf_88 : decode cX11_slotOf 88 = .ok (.iconst 0, 1) := by decide +kernel
theorem dX11_slotOf_89 : decode cX11_slotOf 89 = .ok (.iastore, 1) := by decide +kernel
theorem dX11_slotOf_90 : decode cX11_slotOf 90 = .ok (.aload_n 0, 1) := by decide +kernel
theorem dX11_slotOf_91 : decode cX11_slotOf 91 = .ok (.dup, 1) := by decide +kernel
theorem dX11_slotOf_92 : decode cX11_slotOf 92 = .ok (.getfield 143, 3) := by decide +kernel
theorem dX11_slotOf_95 : decode cX11_slotOf 95 = .ok (.iconst 1, 1) := by decide +kernel
theorem dX11_slotOf_96 : decode cX11_slotOf 96 = .ok (.iadd, 1) := by decide +kernel
theorem dX11_slotOf_97 : decode cX11_slotOf 97 = .ok (.putfield 143, 3) := by decide +kernel
theorem dX11_slotOf_100 : decode cX11_slotOf 100 = .ok (.aload_n 0, 1) := by decide +kernel
theorem dX11_slotOf_101 : decode cX11_slotOf 101 = .ok (.getfield 143, 3) := by decide +kernel
theorem dX11_slotOf_104 : decode cX11_slotOf 104 = .ok (.iconst 1, 1) := by decide +kernel
theorem dX11_slotOf_105 : decode cX11_slotOf 105 = .ok (.isub, 1) := by decide +kernel
theorem dX11_slotOf_106 : decode cX11_slotOf 106 = .ok (.ireturn, 1) := by decide +kernel
theorem dX11_sortOf_0 : decode cX11_sortOf 0 = .ok (.iload_n 0, 1) := by decide +kernel
theorem dX11_sortOf_1 : decode cX11_sortOf 1 = .ok (.bipush 100, 2) := by decide +kernel
theorem dX11_sortOf_3 : decode cX11_sortOf 3 = .ok (.if_icmp .ne 7, 3) := by decide +kernel
theorem dX11_sortOf_6 : decode cX11_sortOf 6 = .ok (.iconst 0, 1) := by decide +kernel
theorem dX11_sortOf_7 : decode cX11_sortOf 7 = .ok (.goto 35, 3) := by decide +kernel
theorem dX11_sortOf_10 : decode cX11_sortOf 10 = .ok (.iload_n 0, 1) := by decide +kernel
theorem dX11_sortOf_11 : decode cX11_sortOf 11 = .ok (.bipush 111, 2) := by decide +kernel
theorem dX11_sortOf_13 : decode cX11_sortOf 13 = .ok (.if_icmp .ne 7, 3) := by decide +kernel
theorem dX11_sortOf_16 : decode cX11_sortOf 16 = .ok (.iconst 1, 1) := by decide +kernel
theorem dX11_sortOf_17 : decode cX11_sortOf 17 = .ok (.goto 25, 3) := by decide +kernel
theorem dX11_sortOf_20 : decode cX11_sortOf 20 = .ok (.iload_n 0, 1) := by decide +kernel
theorem dX11_sortOf_21 : decode cX11_sortOf 21 = .ok (.bipush 115, 2) := by decide +kernel
theorem dX11_sortOf_23 : decode cX11_sortOf 23 = .ok (.if_icmp .ne 7, 3) := by decide +kernel
theorem dX11_sortOf_26 : decode cX11_sortOf 26 = .ok (.iconst 2, 1) := by decide +kernel
theorem dX11_sortOf_27 : decode cX11_sortOf 27 = .ok (.goto 15, 3) := by decide +kernel
theorem dX11_sortOf_30 : decode cX11_sortOf 30 = .ok (.iload_n 0, 1) := by decide +kernel
theorem dX11_sortOf_31 : decode cX11_sortOf 31 = .ok (.bipush 108, 2) := by decide +kernel
theorem dX11_sortOf_33 : decode cX11_sortOf 33 = .ok (.if_icmp .ne 7, 3) := by decide +kernel
theorem dX11_sortOf_36 : decode cX11_sortOf 36 = .ok (.iconst 3, 1) := by decide +kernel
theorem dX11_sortOf_37 : decode cX11_sortOf 37 = .ok (.goto 5, 3) := by decide +kernel
theorem dX11_sortOf_40 : decode cX11_sortOf 40 = .ok (.bipush (-4), 2) := by decide +kernel
theorem dX11_sortOf_42 : decode cX11_sortOf 42 = .ok (.ireturn, 1) := by decide +kernel
theorem dX11_readsPart_0 : decode cX11_readsPart 0 = .ok (.aload_n 0, 1) := by decide +kernel
theorem dX11_readsPart_1 : decode cX11_readsPart 1 = .ok (.invokevirtual 129, 3) := by decide +kernel
theorem dX11_readsPart_4 : decode cX11_readsPart 4 = .ok (.bipush 97, 2) := by decide +kernel
theorem dX11_readsPart_6 : decode cX11_readsPart 6 = .ok (.bipush 112, 2) := by decide +kernel
theorem dX11_readsPart_8 : decode cX11_readsPart 8 = .ok (.invokestatic 135, 3) := by decide +kernel
theorem dX11_readsPart_11 : decode cX11_readsPart 11 = .ok (.ifCond .eq 26, 3) := by decide +kernel
theorem dX11_readsPart_14 : decode cX11_readsPart 14 = .ok (.aload_n 0, 1) := by decide +kernel
theorem dX11_readsPart_15 : decode cX11_readsPart 15 = .ok (.aload_n 0, 1) := by decide +kernel
theorem dX11_readsPart_16 : decode cX11_readsPart 16 = .ok (.invokevirtual 129, 3) := by decide +kernel
theorem dX11_readsPart_19 : decode cX11_readsPart 19 = .ok (.bipush 97, 2) := by decide +kernel
theorem dX11_readsPart_21 : decode cX11_readsPart 21 = .ok (.isub, 1) := by decide +kernel
theorem dX11_readsPart_22 : decode cX11_readsPart 22 = .ok (.putfield 132, 3) := by decide +kernel
theorem dX11_readsPart_25 : decode cX11_readsPart 25 = .ok (.aload_n 0, 1) := by decide +kernel
theorem dX11_readsPart_26 : decode cX11_readsPart 26 = .ok (.dup, 1) := by decide +kernel
theorem dX11_readsPart_27 : decode cX11_readsPart 27 = .ok (.getfield 126, 3) := by decide +kernel
theorem dX11_readsPart_30 : decode cX11_readsPart 30 = .ok (.iconst 1, 1) := by decide +kernel
theorem dX11_readsPart_31 : decode cX11_readsPart 31 = .ok (.iadd, 1) := by decide +kernel
theorem dX11_readsPart_32 : decode cX11_readsPart 32 = .ok (.putfield 126, 3) := by decide +kernel
theorem dX11_readsPart_35 : decode cX11_readsPart 35 = .ok (.iconst 1, 1) := by decide +kernel
theorem dX11_readsPart_36 : decode cX11_readsPart 36 = .ok (.ireturn, 1) := by decide +kernel
theorem dX11_readsPart_37 : decode cX11_readsPart 37 = .ok (.aload_n 0, 1) := by decide +kernel
theorem dX11_readsPart_38 : decode cX11_readsPart 38 = .ok (.bipush 37, 2) := by decide +kernel
theorem dX11_readsPart_40 : decode cX11_readsPart 40 = .ok (.invokevirtual 146, 3) := by decide +kernel
theorem dX11_readsPart_43 : decode cX11_readsPart 43 = .ok (.ifCond .ne 5, 3) := by decide +kernel
theorem dX11_readsPart_46 : decode cX11_readsPart 46 = .ok (.iconst 0, 1) := by decide +kernel
theorem dX11_readsPart_47 : decode cX11_readsPart 47 = .ok (.ireturn, 1) := by decide +kernel
theorem dX11_readsPart_48 : decode cX11_readsPart 48 = .ok (.aload_n 0, 1) := by decide +kernel
theorem dX11_readsPart_49 : decode cX11_readsPart 49 = .ok (.bipush 16, 2) := by decide +kernel
theorem dX11_readsPart_51 : decode cX11_readsPart 51 = .ok (.aload_n 0, 1) := by decide +kernel
theorem dX11_readsPart_52 : decode cX11_readsPart 52 = .ok (.bipush 45, 2) := by decide +kernel
theorem dX11_readsPart_54 : decode cX11_readsPart 54 = .ok (.invokevirtual 146, 3) := by decide +kernel
theorem dX11_readsPart_57 : decode cX11_readsPart 57 = .ok (.ifCond .eq 7, 3) := by decide +kernel
theorem dX11_readsPart_60 : decode cX11_readsPart 60 = .ok (.iconst 4, 1) := by decide +kernel
theorem dX11_readsPart_61 : decode cX11_readsPart 61 = .ok (.goto 4, 3) := by decide +kernel
theorem dX11_readsPart_64 : decode cX11_readsPart 64 = .ok (.iconst 0, 1) := by decide +kernel
theorem dX11_readsPart_65 : decode cX11_readsPart 65 = .ok (.iadd, 1) := by decide +kernel
theorem dX11_readsPart_66 : decode cX11_readsPart 66 = .ok (.putfield 132, 3) := by decide +kernel
theorem dX11_readsPart_69 : decode cX11_readsPart 69 = .ok (.aload_n 0, 1) := by decide +kernel
theorem dX11_readsPart_70 : decode cX11_readsPart 70 = .ok (.invokevirtual 129, 3) := by decide +kernel
theorem dX11_readsPart_73 : decode cX11_readsPart 73 = .ok (.bipush 49, 2) := by decide +kernel
theorem dX11_readsPart_75 : decode cX11_readsPart 75 = .ok (.bipush 55, 2) := by decide +kernel
theorem dX11_readsPart_77 : decode cX11_readsPart 77 = .ok (.invokestatic 135, 3) := by decide +kernel
theorem dX11_readsPart_80 : decode cX11_readsPart 80 = .ok (.ifCond .eq 32, 3) := by decide +kernel
theorem dX11_readsPart_83 : decode cX11_readsPart 83 = .ok (.aload_n 0, 1) := by decide +kernel
theorem dX11_readsPart_84 : decode cX11_readsPart 84 = .ok (.dup, 1) := by decide +kernel
theorem dX11_readsPart_85 : decode cX11_readsPart 85 = .ok (.getfield 132, 3) := by decide +kernel
theorem dX11_readsPart_88 : decode cX11_readsPart 88 = .ok (.bipush 8, 2) := by decide +kernel
theorem dX11_readsPart_90 : decode cX11_readsPart 90 = .ok (.aload_n 0, 1) := by decide +kernel
theorem dX11_readsPart_91 : decode cX11_readsPart 91 = .ok (.invokevirtual 129, 3) := by decide +kernel
theorem dX11_readsPart_94 : decode cX11_readsPart 94 = .ok (.bipush 48, 2) := by decide +kernel
theorem dX11_readsPart_96 : decode cX11_readsPart 96 = .ok (.isub, 1) := by decide +kernel
theorem dX11_readsPart_97 : decode cX11_readsPart 97 = .ok (.imul, 1) := by decide +kernel
theorem dX11_readsPart_98 : decode cX11_readsPart 98 = .ok (.iadd, 1) := by decide +kernel
theorem dX11_readsPart_99 : decode cX11_readsPart 99 = .ok (.putfield 132, 3) := by decide +kernel
theorem dX11_readsPart_102 : decode cX11_readsPart 102 = .ok (.aload_n 0, 1) := by decide +kernel
theorem dX11_readsPart_103 : decode cX11_readsPart 103 = .ok (.dup, 1) := by decide +kernel
theorem dX11_readsPart_104 : decode cX11_readsPart 104 = .ok (.getfield 126, 3) := by decide +kernel
theorem dX11_readsPart_107 : decode cX11_readsPart 107 = .ok (.iconst 1, 1) := by decide +kernel
theorem dX11_readsPart_108 : decode cX11_readsPart 108 = .ok (.iadd, 1) := by decide +kernel
theorem dX11_readsPart_109 : decode cX11_readsPart 109 = .ok (.putfield 126, 3) := by decide +kernel
theorem dX11_readsPart_112 : decode cX11_readsPart 112 = .ok (.aload_n 0, 1) := by decide +kernel
theorem dX11_readsPart_113 : decode cX11_readsPart 113 = .ok (.invokevirtual 129, 3) := by decide +kernel
theorem dX11_readsPart_116 : decode cX11_readsPart 116 = .ok (.invokestatic 150, 3) := by decide +kernel
theorem dX11_readsPart_119 : decode cX11_readsPart 119 = .ok (.istore_n 1, 1) := by decide +kernel
theorem dX11_readsPart_120 : decode cX11_readsPart 120 = .ok (.aload_n 0, 1) := by decide +kernel
theorem dX11_readsPart_121 : decode cX11_readsPart 121 = .ok (.dup, 1) := by decide +kernel
theorem dX11_readsPart_122 : decode cX11_readsPart 122 = .ok (.getfield 126, 3) := by decide +kernel
theorem dX11_readsPart_125 : decode cX11_readsPart 125 = .ok (.iconst 1, 1) := by decide +kernel
theorem dX11_readsPart_126 : decode cX11_readsPart 126 = .ok (.iadd, 1) := by decide +kernel
theorem dX11_readsPart_127 : decode cX11_readsPart 127 = .ok (.putfield 126, 3) := by decide +kernel
theorem dX11_readsPart_130 : decode cX11_readsPart 130 = .ok (.aload_n 0, 1) := by decide +kernel
theorem dX11_readsPart_131 : decode cX11_readsPart 131 = .ok (.dup, 1) := by decide +kernel
theorem dX11_readsPart_132 : decode cX11_readsPart 132 = .ok (.getfield 132, 3) := by decide +kernel
theorem dX11_readsPart_135 : decode cX11_readsPart 135 = .ok (.iload_n 1, 1) := by decide +kernel
theorem dX11_readsPart_136 : decode cX11_readsPart 136 = .ok (.iadd, 1) := by decide +kernel
theorem dX11_readsPart_137 : decode cX11_readsPart 137 = .ok (.putfield 132, 3) := by decide +kernel
theorem dX11_readsPart_140 : decode cX11_readsPart 140 = .ok (.iload_n 1, 1) := by decide +kernel
theorem dX11_readsPart_141 : decode cX11_readsPart 141 = .ok (.bipush (-4), 2) := by decide +kernel
theorem dX11_readsPart_143 : decode cX11_readsPart 143 = .ok (.if_icmp .eq 7, 3) := by decide +kernel
theorem dX11_readsPart_146 : decode cX11_readsPart 146 = .ok (.iconst 1, 1) := by decide +kernel
theorem dX11_readsPart_147 : decode cX11_readsPart 147 = .ok (.goto 4, 3) := by decide +kernel
theorem dX11_readsPart_150 : decode cX11_readsPart 150 = .ok (.iconst 0, 1) := by decide +kernel
theorem dX11_readsPart_151 : decode cX11_readsPart 151 = .ok (.ireturn, 1) := by decide +kernel
theorem dX11_macro_0 : decode cX11_macro 0 = .ok (.iconst 0, 1) := by decide +kernel
theorem dX11_macro_1 : decode cX11_macro 1 = .ok (.istore_n 2, 1) := by decide +kernel
theorem dX11_macro_2 : decode cX11_macro 2 = .ok (.aload_n 0, 1) := by decide +kernel
theorem dX11_macro_3 : decode cX11_macro 3 = .ok (.invokevirtual 129, 3) := by decide +kernel
theorem dX11_macro_6 : decode cX11_macro 6 = .ok (.bipush 44, 2) := by decide +kernel
theorem dX11_macro_8 : decode cX11_macro 8 = .ok (.if_icmp .eq 48, 3) := by decide +kernel
theorem dX11_macro_11 : decode cX11_macro 11 = .ok (.aload_n 0, 1) := by decide +kernel
theorem dX11_macro_12 : decode cX11_macro 12 = .ok (.invokevirtual 129, 3) := by decide +kernel
theorem dX11_macro_15 : decode cX11_macro 15 = .ok (.bipush 59, 2) := by decide +kernel
theorem dX11_macro_17 : decode cX11_macro 17 = .ok (.if_icmp .eq 39, 3) := by decide +kernel
theorem dX11_macro_20 : decode cX11_macro 20 = .ok (.iload_n 2, 1) := by decide +kernel
theorem dX11_macro_21 : decode cX11_macro 21 = .ok (.bipush 8, 2) := by decide +kernel
theorem dX11_macro_23 : decode cX11_macro 23 = .ok (.if_icmp .eq 10, 3) := by decide +kernel
theorem dX11_macro_26 : decode cX11_macro 26 = .ok (.aload_n 0, 1) := by decide +kernel
theorem dX11_macro_27 : decode cX11_macro 27 = .ok (.invokevirtual 153, 3) := by decide +kernel
theorem dX11_macro_30 : decode cX11_macro 30 = .ok (.ifCond .ne 5, 3) := by decide +kernel
theorem dX11_macro_33 : decode cX11_macro 33 = .ok (.iconst 0, 1) := by decide +kernel
theorem dX11_macro_34 : decode cX11_macro 34 = .ok (.ireturn, 1) := by decide +kernel
theorem dX11_macro_35 : decode cX11_macro 35 = .ok (.aload_n 0, 1) := by decide +kernel
theorem dX11_macro_36 : decode cX11_macro 36 = .ok (.getfield 82, 3) := by decide +kernel
theorem dX11_macro_39 : decode cX11_macro 39 = .ok (.bipush 8, 2) := by decide +kernel
theorem dX11_macro_41 : decode cX11_macro 41 = .ok (.iload_n 1, 1) := by decide +kernel
theorem dX11_macro_42 : decode cX11_macro 42 = .ok (.imul, 1) := by decide +kernel
theorem dX11_macro_43 : decode cX11_macro 43 = .ok (.iload_n 2, 1) := by decide +kernel
theorem dX11_macro_44 : decode cX11_macro 44 = .ok (.iadd, 1) := by decide +kernel
theorem dX11_macro_45 : decode cX11_macro 45 = .ok (.aload_n 0, 1) := by decide +kernel
theorem dX11_macro_46 : decode cX11_macro 46 = .ok (.getfield 132, 3) := by decide +kernel
theorem dX11_macro_49 : decode cX11_macro 49 = .ok (.iastore, 1) := by decide +kernel
theorem dX11_macro_50 : decode cX11_macro 50 = .ok (.iinc 2 1, 3) := by decide +kernel
theorem dX11_macro_53 : decode cX11_macro 53 = .ok (.goto (-51), 3) := by decide +kernel
theorem dX11_macro_56 : decode cX11_macro 56 = .ok (.aload_n 0, 1) := by decide +kernel
theorem dX11_macro_57 : decode cX11_macro 57 = .ok (.getfield 79, 3) := by decide +kernel
theorem dX11_macro_60 : decode cX11_macro 60 = .ok (.iload_n 1, 1) := by decide +kernel
theorem dX11_macro_61 : decode cX11_macro 61 = .ok (.iload_n 2, 1) := by decide +kernel
theorem dX11_macro_62 : decode cX11_macro 62 = .ok (.iastore, 1) := by decide +kernel
theorem dX11_macro_63 : decode cX11_macro 63 = .ok (.iload_n 2, 1) := by decide +kernel
theorem dX11_macro_64 : decode cX11_macro 64 = .ok (.ifCond .le 7, 3) := by decide +kernel
theorem dX11_macro_67 : decode cX11_macro 67 = .ok (.iconst 1, 1) := by decide +kernel
theorem dX11_macro_68 : decode cX11_macro 68 = .ok (.goto 4, 3) := by decide +kernel
theorem dX11_macro_71 : decode cX11_macro 71 = .ok (.iconst 0, 1) := by decide +kernel
theorem dX11_macro_72 : decode cX11_macro 72 = .ok (.ireturn, 1) := by decide +kernel
theorem dX11_asks_0 : decode cX11_asks 0 = .ok (.aload_n 0, 1) := by decide +kernel
theorem dX11_asks_1 : decode cX11_asks 1 = .ok (.invokevirtual 129, 3) := by decide +kernel
theorem dX11_asks_4 : decode cX11_asks 4 = .ok (.istore_n 2, 1) := by decide +kernel
theorem dX11_asks_5 : decode cX11_asks 5 = .ok (.aload_n 0, 1) := by decide +kernel
theorem dX11_asks_6 : decode cX11_asks 6 = .ok (.dup, 1) := by decide +kernel
theorem dX11_asks_7 : decode cX11_asks 7 = .ok (.getfield 126, 3) := by decide +kernel
theorem dX11_asks_10 : decode cX11_asks 10 = .ok (.iconst 1, 1) := by decide +kernel
theorem dX11_asks_11 : decode cX11_asks 11 = .ok (.iadd, 1) := by decide +kernel
theorem dX11_asks_12 : decode cX11_asks 12 = .ok (.putfield 126, 3) := by decide +kernel
theorem dX11_asks_15 : decode cX11_asks 15 = .ok (.aload_n 0, 1) := by decide +kernel
theorem dX11_asks_16 : decode cX11_asks 16 = .ok (.getfield 70, 3) := by decide +kernel
theorem dX11_asks_19 : decode cX11_asks 19 = .ok (.iload_n 1, 1) := by decide +kernel
theorem dX11_asks_20 : decode cX11_asks 20 = .ok (.bipush (-4), 2) := by decide +kernel
theorem dX11_asks_22 : decode cX11_asks 22 = .ok (.iastore, 1) := by decide +kernel
theorem dX11_asks_23 : decode cX11_asks 23 = .ok (.aload_n 0, 1) := by decide +kernel
theorem dX11_asks_24 : decode cX11_asks 24 = .ok (.getfield 73, 3) := by decide +kernel
theorem dX11_asks_27 : decode cX11_asks 27 = .ok (.iload_n 1, 1) := by decide +kernel
theorem dX11_asks_28 : decode cX11_asks 28 = .ok (.bipush (-4), 2) := by decide +kernel
theorem dX11_asks_30 : decode cX11_asks 30 = .ok (.iastore, 1) := by decide +kernel
theorem dX11_asks_31 : decode cX11_asks 31 = .ok (.aload_n 0, 1) := by decide +kernel
theorem dX11_asks_32 : decode cX11_asks 32 = .ok (.getfield 76, 3) := by decide +kernel
theorem dX11_asks_35 : decode cX11_asks 35 = .ok (.iload_n 1, 1) := by decide +kernel
theorem dX11_asks_36 : decode cX11_asks 36 = .ok (.iconst 0, 1) := by decide +kernel
theorem dX11_asks_37 : decode cX11_asks 37 = .ok (.iastore, 1) := by decide +kernel
theorem dX11_asks_38 : decode cX11_asks 38 = .ok (.aload_n 0, 1) := by decide +kernel
theorem dX11_asks_39 : decode cX11_asks 39 = .ok (.getfield 79, 3) := by decide +kernel
theorem dX11_asks_42 : decode cX11_asks 42 = .ok (.iload_n 1, 1) := by decide +kernel
theorem dX11_asks_43 : decode cX11_asks 43 = .ok (.iconst 0, 1) := by decide +kernel
theorem dX11_asks_44 : decode cX11_asks 44 = .ok (.iastore, 1) := by decide +kernel
theorem dX11_asks_45 : decode cX11_asks 45 = .ok (.iload_n 2, 1) := by decide +kernel
theorem dX11_asks_46 : decode cX11_asks 46 = .ok (.lookupswitch 121 #[(97, 34), (101, 108), (112, 43)], 34) := by decide +kernel
theorem dX11_asks_80 : decode cX11_asks 80 = .ok (.aload_n 0, 1) := by decide +kernel
theorem dX11_asks_81 : decode cX11_asks 81 = .ok (.getfield 67, 3) := by decide +kernel
theorem dX11_asks_84 : decode cX11_asks 84 = .ok (.iload_n 1, 1) := by decide +kernel
theorem dX11_asks_85 : decode cX11_asks 85 = .ok (.iconst 0, 1) := by decide +kernel
theorem dX11_asks_86 : decode cX11_asks 86 = .ok (.iastore, 1) := by decide +kernel
theorem dX11_asks_87 : decode cX11_asks 87 = .ok (.iconst 1, 1) := by decide +kernel
theorem dX11_asks_88 : decode cX11_asks 88 = .ok (.ireturn, 1) := by decide +kernel
theorem dX11_asks_89 : decode cX11_asks 89 = .ok (.aload_n 0, 1) := by decide +kernel
theorem dX11_asks_90 : decode cX11_asks 90 = .ok (.getfield 67, 3) := by decide +kernel
theorem dX11_asks_93 : decode cX11_asks 93 = .ok (.iload_n 1, 1) := by decide +kernel
theorem dX11_asks_94 : decode cX11_asks 94 = .ok (.iconst 1, 1) := by decide +kernel
theorem dX11_asks_95 : decode cX11_asks 95 = .ok (.iastore, 1) := by decide +kernel
theorem dX11_asks_96 : decode cX11_asks 96 = .ok (.aload_n 0, 1) := by decide +kernel
theorem dX11_asks_97 : decode cX11_asks 97 = .ok (.sipush 255, 3) := by decide +kernel
theorem dX11_asks_100 : decode cX11_asks 100 = .ok (.invokevirtual 157, 3) := by decide +kernel
theorem dX11_asks_103 : decode cX11_asks 103 = .ok (.istore_n 3, 1) := by decide +kernel
theorem dX11_asks_104 : decode cX11_asks 104 = .ok (.aload_n 0, 1) := by decide +kernel
theorem dX11_asks_105 : decode cX11_asks 105 = .ok (.getfield 70, 3) := by decide +kernel
theorem dX11_asks_108 : decode cX11_asks 108 = .ok (.iload_n 1, 1) := by decide +kernel
theorem dX11_asks_109 : decode cX11_asks 109 = .ok (.aload_n 0, 1) := by decide +kernel
theorem dX11_asks_110 : decode cX11_asks 110 = .ok (.getfield 132, 3) := by decide +kernel
theorem dX11_asks_113 : decode cX11_asks 113 = .ok (.iastore, 1) := by decide +kernel
theorem dX11_asks_114 : decode cX11_asks 114 = .ok (.iload_n 3, 1) := by decide +kernel
theorem dX11_asks_115 : decode cX11_asks 115 = .ok (.ifCond .eq 25, 3) := by decide +kernel
theorem dX11_asks_118 : decode cX11_asks 118 = .ok (.aload_n 0, 1) := by decide +kernel
theorem dX11_asks_119 : decode cX11_asks 119 = .ok (.bipush 47, 2) := by decide +kernel
theorem dX11_asks_121 : decode cX11_asks 121 = .ok (.invokevirtual 146, 3) := by decide +kernel
theorem dX11_asks_124 : decode cX11_asks 124 = .ok (.ifCond .eq 16, 3) := by decide +kernel
theorem dX11_asks_127 : decode cX11_asks 127 = .ok (.aload_n 0, 1) := by decide +kernel
theorem dX11_asks_128 : decode cX11_asks 128 = .ok (.bipush 8, 2) := by decide +kernel
theorem dX11_asks_130 : decode cX11_asks 130 = .ok (.invokevirtual 157, 3) := by decide +kernel
theorem dX11_asks_133 : decode cX11_asks 133 = .ok (.ifCond .eq 7, 3) := by decide +kernel
theorem dX11_asks_136 : decode cX11_asks 136 = .ok (.iconst 1, 1) := by decide +kernel
theorem dX11_asks_137 : decode cX11_asks 137 = .ok (.goto 4, 3) := by decide +kernel
theorem dX11_asks_140 : decode cX11_asks 140 = .ok (.iconst 0, 1) := by decide +kernel
theorem dX11_asks_141 : decode cX11_asks 141 = .ok (.istore_n 3, 1) := by decide +kernel
theorem dX11_asks_142 : decode cX11_asks 142 = .ok (.aload_n 0, 1) := by decide +kernel
theorem dX11_asks_143 : decode cX11_asks 143 = .ok (.getfield 73, 3) := by decide +kernel
theorem dX11_asks_146 : decode cX11_asks 146 = .ok (.iload_n 1, 1) := by decide +kernel
theorem dX11_asks_147 : decode cX11_asks 147 = .ok (.aload_n 0, 1) := by decide +kernel
theorem dX11_asks_148 : decode cX11_asks 148 = .ok (.getfield 132, 3) := by decide +kernel
theorem dX11_asks_151 : decode cX11_asks 151 = .ok (.iastore, 1) := by decide +kernel
theorem dX11_asks_152 : decode cX11_asks 152 = .ok (.iload_n 3, 1) := by decide +kernel
theorem dX11_asks_153 : decode cX11_asks 153 = .ok (.ireturn, 1) := by decide +kernel
theorem dX11_asks_154 : decode cX11_asks 154 = .ok (.aload_n 0, 1) := by decide +kernel
theorem dX11_asks_155 : decode cX11_asks 155 = .ok (.getfield 67, 3) := by decide +kernel
theorem dX11_asks_158 : decode cX11_asks 158 = .ok (.iload_n 1, 1) := by decide +kernel
theorem dX11_asks_159 : decode cX11_asks 159 = .ok (.iconst 5, 1) := by decide +kernel
theorem dX11_asks_160 : decode cX11_asks 160 = .ok (.iastore, 1) := by decide +kernel
theorem dX11_asks_161 : decode cX11_asks 161 = .ok (.aload_n 0, 1) := by decide +kernel
theorem dX11_asks_162 : decode cX11_asks 162 = .ok (.iload_n 1, 1) := by decide +kernel
theorem dX11_asks_163 : decode cX11_asks 163 = .ok (.invokevirtual 160, 3) := by decide +kernel
theorem dX11_asks_166 : decode cX11_asks 166 = .ok (.ireturn, 1) := by decide +kernel
theorem dX11_asks_167 : decode cX11_asks 167 = .ok (.aload_n 0, 1) := by decide +kernel
theorem dX11_asks_168 : decode cX11_asks 168 = .ok (.getfield 67, 3) := by decide +kernel
theorem dX11_asks_171 : decode cX11_asks 171 = .ok (.iload_n 1, 1) := by decide +kernel
theorem dX11_asks_172 : decode cX11_asks 172 = .ok (.iload_n 2, 1) := by decide +kernel
theorem dX11_asks_173 : decode cX11_asks 173 = .ok (.bipush 105, 2) := by decide +kernel
theorem dX11_asks_175 : decode cX11_asks 175 = .ok (.if_icmp .ne 7, 3) := by decide +kernel
theorem dX11_asks_178 : decode cX11_asks 178 = .ok (.iconst 2, 1) := by decide +kernel
theorem dX11_asks_179 : decode cX11_asks 179 = .ok (.goto 14, 3) := by decide +kernel
theorem dX11_asks_182 : decode cX11_asks 182 = .ok (.iload_n 2, 1) := by decide +kernel
theorem dX11_asks_183 : decode cX11_asks 183 = .ok (.bipush 104, 2) := by decide +kernel
theorem dX11_asks_185 : decode cX11_asks 185 = .ok (.if_icmp .ne 7, 3) := by decide +kernel
theorem dX11_asks_188 : decode cX11_asks 188 = .ok (.iconst 3, 1) := by decide +kernel
theorem dX11_asks_189 : decode cX11_asks 189 = .ok (.goto 4, 3) := by decide +kernel
theorem dX11_asks_192 : decode cX11_asks 192 = .ok (.iconst 4, 1) := by decide +kernel
theorem dX11_asks_193 : decode cX11_asks 193 = .ok (.iastore, 1) := by decide +kernel
theorem dX11_asks_194 : decode cX11_asks 194 = .ok (.iload_n 2, 1) := by decide +kernel
theorem dX11_asks_195 : decode cX11_asks 195 = .ok (.bipush 105, 2) := by decide +kernel
theorem dX11_asks_197 : decode cX11_asks 197 = .ok (.if_icmp .eq 15, 3) := by decide +kernel
theorem dX11_asks_200 : decode cX11_asks 200 = .ok (.iload_n 2, 1) := by decide +kernel
theorem dX11_asks_201 : decode cX11_asks 201 = .ok (.bipush 104, 2) := by decide +kernel
theorem dX11_asks_203 : decode cX11_asks 203 = .ok (.if_icmp .eq 9, 3) := by decide +kernel
theorem dX11_asks_206 : decode cX11_asks 206 = .ok (.iload_n 2, 1) := by decide +kernel
theorem dX11_asks_207 : decode cX11_asks 207 = .ok (.bipush 109, 2) := by decide +kernel
theorem dX11_asks_209 : decode cX11_asks 209 = .ok (.if_icmp .ne 14, 3) := by decide +kernel
theorem dX11_asks_212 : decode cX11_asks 212 = .ok (.aload_n 0, 1) := by decide +kernel
theorem dX11_asks_213 : decode cX11_asks 213 = .ok (.invokevirtual 163, 3) := by decide +kernel
theorem dX11_asks_216 : decode cX11_asks 216 = .ok (.ifCond .eq 7, 3) := by decide +kernel
theorem dX11_asks_219 : decode cX11_asks 219 = .ok (.iconst 1, 1) := by decide +kernel
theorem dX11_asks_220 : decode cX11_asks 220 = .ok (.goto 4, 3) := by decide +kernel
theorem dX11_asks_223 : decode cX11_asks 223 = .ok (.iconst 0, 1) := by decide +kernel
theorem dX11_asks_224 : decode cX11_asks 224 = .ok (.istore 4, 2) := by decide +kernel
theorem dX11_asks_226 : decode cX11_asks 226 = .ok (.aload_n 0, 1) := by decide +kernel
theorem dX11_asks_227 : decode cX11_asks 227 = .ok (.getfield 76, 3) := by decide +kernel
theorem dX11_asks_230 : decode cX11_asks 230 = .ok (.iload_n 1, 1) := by decide +kernel
theorem dX11_asks_231 : decode cX11_asks 231 = .ok (.aload_n 0, 1) := by decide +kernel
theorem dX11_asks_232 : decode cX11_asks 232 = .ok (.getfield 132, 3) := by decide +kernel
theorem dX11_asks_235 : decode cX11_asks 235 = .ok (.iastore, 1) := by decide +kernel
theorem dX11_asks_236 : decode cX11_asks 236 = .ok (.iload 4, 2) := by decide +kernel
theorem dX11_asks_238 : decode cX11_asks 238 = .ok (.ireturn, 1) := by decide +kernel
theorem dX11_signOf_0 : decode cX11_signOf 0 = .ok (.iload_n 0, 1) := by decide +kernel
theorem dX11_signOf_1 : decode cX11_signOf 1 = .ok (.bipush 43, 2) := by decide +kernel
theorem dX11_signOf_3 : decode cX11_signOf 3 = .ok (.if_icmp .ne 7, 3) := by decide +kernel
theorem dX11_signOf_6 : decode cX11_signOf 6 = .ok (.iconst 0, 1) := by decide +kernel
theorem dX11_signOf_7 : decode cX11_signOf 7 = .ok (.goto 35, 3) := by decide +kernel
theorem dX11_signOf_10 : decode cX11_signOf 10 = .ok (.iload_n 0, 1) := by decide +kernel
theorem dX11_signOf_11 : decode cX11_signOf 11 = .ok (.bipush 45, 2) := by decide +kernel
theorem dX11_signOf_13 : decode cX11_signOf 13 = .ok (.if_icmp .ne 7, 3) := by decide +kernel
theorem dX11_signOf_16 : decode cX11_signOf 16 = .ok (.iconst 1, 1) := by decide +kernel
theorem dX11_signOf_17 : decode cX11_signOf 17 = .ok (.goto 25, 3) := by decide +kernel
theorem dX11_signOf_20 : decode cX11_signOf 20 = .ok (.iload_n 0, 1) := by decide +kernel
theorem dX11_signOf_21 : decode cX11_signOf 21 = .ok (.bipush 126, 2) := by decide +kernel
theorem dX11_signOf_23 : decode cX11_signOf 23 = .ok (.if_icmp .ne 7, 3) := by decide +kernel
theorem dX11_signOf_26 : decode cX11_signOf 26 = .ok (.iconst 2, 1) := by decide +kernel
theorem dX11_signOf_27 : decode cX11_signOf 27 = .ok (.goto 15, 3) := by decide +kernel
theorem dX11_signOf_30 : decode cX11_signOf 30 = .ok (.iload_n 0, 1) := by decide +kernel
theorem dX11_signOf_31 : decode cX11_signOf 31 = .ok (.bipush 63, 2) := by decide +kernel
theorem dX11_signOf_33 : decode cX11_signOf 33 = .ok (.if_icmp .ne 7, 3) := by decide +kernel
theorem dX11_signOf_36 : decode cX11_signOf 36 = .ok (.iconst 3, 1) := by decide +kernel
theorem dX11_signOf_37 : decode cX11_signOf 37 = .ok (.goto 5, 3) := by decide +kernel
theorem dX11_signOf_40 : decode cX11_signOf 40 = .ok (.bipush (-4), 2) := by decide +kernel
theorem dX11_signOf_42 : decode cX11_signOf 42 = .ok (.ireturn, 1) := by decide +kernel
theorem dX11_rulesOf_0 : decode cX11_rulesOf 0 = .ok (.iconst 0, 1) := by decide +kernel
theorem dX11_rulesOf_1 : decode cX11_rulesOf 1 = .ok (.istore_n 2, 1) := by decide +kernel
theorem dX11_rulesOf_2 : decode cX11_rulesOf 2 = .ok (.aload_n 0, 1) := by decide +kernel
theorem dX11_rulesOf_3 : decode cX11_rulesOf 3 = .ok (.getfield 58, 3) := by decide +kernel
theorem dX11_rulesOf_6 : decode cX11_rulesOf 6 = .ok (.iload_n 1, 1) := by decide +kernel
theorem dX11_rulesOf_7 : decode cX11_rulesOf 7 = .ok (.iconst 0, 1) := by decide +kernel
theorem dX11_rulesOf_8 : decode cX11_rulesOf 8 = .ok (.iastore, 1) := by decide +kernel
theorem dX11_rulesOf_9 : decode cX11_rulesOf 9 = .ok (.iconst 1, 1) := by decide +kernel
theorem dX11_rulesOf_10 : decode cX11_rulesOf 10 = .ok (.istore_n 3, 1) := by decide +kernel
theorem dX11_rulesOf_11 : decode cX11_rulesOf 11 = .ok (.iload_n 3, 1) := by decide +kernel
theorem dX11_rulesOf_12 : decode cX11_rulesOf 12 = .ok (.ifCond .eq 113, 3) := by decide +kernel
theorem dX11_rulesOf_15 : decode cX11_rulesOf 15 = .ok (.iload_n 2, 1) := by decide +kernel
theorem dX11_rulesOf_16 : decode cX11_rulesOf 16 = .ok (.ifCond .le 34, 3) := by decide +kernel
theorem dX11_rulesOf_19 : decode cX11_rulesOf 19 = .ok (.aload_n 0, 1) := by decide +kernel
theorem dX11_rulesOf_20 : decode cX11_rulesOf 20 = .ok (.bipush 114, 2) := by decide +kernel
theorem dX11_rulesOf_22 : decode cX11_rulesOf 22 = .ok (.invokevirtual 146, 3) := by decide +kernel
theorem dX11_rulesOf_25 : decode cX11_rulesOf 25 = .ok (.ifCond .eq 25, 3) := by decide +kernel
theorem dX11_rulesOf_28 : decode cX11_rulesOf 28 = .ok (.aload_n 0, 1) := by decide +kernel
theorem dX11_rulesOf_29 : decode cX11_rulesOf 29 = .ok (.invokevirtual 163, 3) := by decide +kernel
theorem dX11_rulesOf_32 : decode cX11_rulesOf 32 = .ok (.ifCond .ne 5, 3) := by decide +kernel
theorem dX11_rulesOf_35 : decode cX11_rulesOf 35 = .ok (.iconst 0, 1) := by decide +kernel
theorem dX11_rulesOf_36 : decode cX11_rulesOf 36 = .ok (.ireturn, 1) := by decide +kernel
theorem dX11_rulesOf_37 : decode cX11_rulesOf 37 = .ok (.aload_n 0, 1) := by decide +kernel
theorem dX11_rulesOf_38 : decode cX11_rulesOf 38 = .ok (.getfield 58, 3) := by decide +kernel
theorem dX11_rulesOf_41 : decode cX11_rulesOf 41 = .ok (.iload_n 1, 1) := by decide +kernel
theorem dX11_rulesOf_42 : decode cX11_rulesOf 42 = .ok (.aload_n 0, 1) := by decide +kernel
theorem dX11_rulesOf_43 : decode cX11_rulesOf 43 = .ok (.getfield 132, 3) := by decide +kernel
theorem dX11_rulesOf_46 : decode cX11_rulesOf 46 = .ok (.iastore, 1) := by decide +kernel
theorem dX11_rulesOf_47 : decode cX11_rulesOf 47 = .ok (.goto 78, 3) := by decide +kernel
theorem dX11_rulesOf_50 : decode cX11_rulesOf 50 = .ok (.aload_n 0, 1) := by decide +kernel
theorem dX11_rulesOf_51 : decode cX11_rulesOf 51 = .ok (.invokevirtual 129, 3) := by decide +kernel
theorem dX11_rulesOf_54 : decode cX11_rulesOf 54 = .ok (.invokestatic 166, 3) := by decide +kernel
theorem dX11_rulesOf_57 : decode cX11_rulesOf 57 = .ok (.istore 4, 2) := by decide +kernel
theorem dX11_rulesOf_59 : decode cX11_rulesOf 59 = .ok (.iload 4, 2) := by decide +kernel
theorem dX11_rulesOf_61 : decode cX11_rulesOf 61 = .ok (.bipush (-4), 2) := by decide +kernel
theorem dX11_rulesOf_63 : decode cX11_rulesOf 63 = .ok (.if_icmp .eq 9, 3) := by decide +kernel
theorem dX11_rulesOf_66 : decode cX11_rulesOf 66 = .ok (.iload_n 2, 1) := by decide +kernel
theorem dX11_rulesOf_67 : decode cX11_rulesOf 67 = .ok (.bipush 8, 2) := by decide +kernel
theorem dX11_rulesOf_69 : decode cX11_rulesOf 69 = .ok (.if_icmp .ne 5, 3) := by decide +kernel
theorem dX11_rulesOf_72 : decode cX11_rulesOf 72 = .ok (.iconst 0, 1) := by decide +kernel
theorem dX11_rulesOf_73 : decode cX11_rulesOf 73 = .ok (.ireturn, 1) := by decide +kernel
theorem dX11_rulesOf_74 : decode cX11_rulesOf 74 = .ok (.aload_n 0, 1) := by decide +kernel
theorem dX11_rulesOf_75 : decode cX11_rulesOf 75 = .ok (.dup, 1) := by decide +kernel
theorem dX11_rulesOf_76 : decode cX11_rulesOf 76 = .ok (.getfield 126, 3) := by decide +kernel
theorem dX11_rulesOf_79 : decode cX11_rulesOf 79 = .ok (.iconst 1, 1) := by decide +kernel
theorem dX11_rulesOf_80 : decode cX11_rulesOf 80 = .ok (.iadd, 1) := by decide +kernel
theorem dX11_rulesOf_81 : decode cX11_rulesOf 81 = .ok (.putfield 126, 3) := by decide +kernel
theorem dX11_rulesOf_84 : decode cX11_rulesOf 84 = .ok (.aload_n 0, 1) := by decide +kernel
theorem dX11_rulesOf_85 : decode cX11_rulesOf 85 = .ok (.getfield 85, 3) := by decide +kernel
theorem dX11_rulesOf_88 : decode cX11_rulesOf 88 = .ok (.bipush 8, 2) := by decide +kernel
theorem dX11_rulesOf_90 : decode cX11_rulesOf 90 = .ok (.iload_n 1, 1) := by decide +kernel
theorem dX11_rulesOf_91 : decode cX11_rulesOf 91 = .ok (.imul, 1) := by decide +kernel
theorem dX11_rulesOf_92 : decode cX11_rulesOf 92 = .ok (.iload_n 2, 1) := by decide +kernel
theorem dX11_rulesOf_93 : decode cX11_rulesOf 93 = .ok (.iadd, 1) := by decide +kernel
theorem dX11_rulesOf_94 : decode cX11_rulesOf 94 = .ok (.iload 4, 2) := by decide +kernel
theorem dX11_rulesOf_96 : decode cX11_rulesOf 96 = .ok (.iastore, 1) := by decide +kernel
theorem dX11_rulesOf_97 : decode cX11_rulesOf 97 = .ok (.aload_n 0, 1) := by decide +kernel
theorem dX11_rulesOf_98 : decode cX11_rulesOf 98 = .ok (.bipush 8, 2) := by decide +kernel
theorem dX11_rulesOf_100 : decode cX11_rulesOf 100 = .ok (.iload_n 1, 1) := by decide +kernel
theorem dX11_rulesOf_101 : decode cX11_rulesOf 101 = .ok (.imul, 1) := by decide +kernel
theorem dX11_rulesOf_102 : decode cX11_rulesOf 102 = .ok (.iload_n 2, 1) := by decide +kernel
theorem dX11_rulesOf_103 : decode cX11_rulesOf 103 = .ok (.iadd, 1) := by decide +kernel
theorem dX11_rulesOf_104 : decode cX11_rulesOf 104 = .ok (.invokevirtual 169, 3) := by decide +kernel
theorem dX11_rulesOf_107 : decode cX11_rulesOf 107 = .ok (.ifCond .ne 5, 3) := by decide +kernel
theorem dX11_rulesOf_110 : decode cX11_rulesOf 110 = .ok (.iconst 0, 1) := by decide +kernel
theorem dX11_rulesOf_111 : decode cX11_rulesOf 111 = .ok (.ireturn, 1) := by decide +kernel
theorem dX11_rulesOf_112 : decode cX11_rulesOf 112 = .ok (.iinc 2 1, 3) := by decide +kernel
theorem dX11_rulesOf_115 : decode cX11_rulesOf 115 = .ok (.aload_n 0, 1) := by decide +kernel
theorem dX11_rulesOf_116 : decode cX11_rulesOf 116 = .ok (.bipush 44, 2) := by decide +kernel
theorem dX11_rulesOf_118 : decode cX11_rulesOf 118 = .ok (.invokevirtual 146, 3) := by decide +kernel
theorem dX11_rulesOf_121 : decode cX11_rulesOf 121 = .ok (.istore_n 3, 1) := by decide +kernel
theorem dX11_rulesOf_122 : decode cX11_rulesOf 122 = .ok (.goto (-111), 3) := by decide +kernel
theorem dX11_rulesOf_125 : decode cX11_rulesOf 125 = .ok (.aload_n 0, 1) := by decide +kernel
theorem dX11_rulesOf_126 : decode cX11_rulesOf 126 = .ok (.getfield 55, 3) := by decide +kernel
theorem dX11_rulesOf_129 : decode cX11_rulesOf 129 = .ok (.iload_n 1, 1) := by decide +kernel
theorem dX11_rulesOf_130 : decode cX11_rulesOf 130 = .ok (.iload_n 2, 1) := by decide +kernel
theorem dX11_rulesOf_131 : decode cX11_rulesOf 131 = .ok (.iastore, 1) := by decide +kernel
theorem dX11_rulesOf_132 : decode cX11_rulesOf 132 = .ok (.iconst 1, 1) := by decide +kernel
theorem dX11_rulesOf_133 : decode cX11_rulesOf 133 = .ok (.ireturn, 1) := by decide +kernel
theorem dX11_hostsOf_0 : decode cX11_hostsOf 0 = .ok (.iconst 0, 1) := by decide +kernel
theorem dX11_hostsOf_1 : decode cX11_hostsOf 1 = .ok (.istore_n 2, 1) := by decide +kernel
theorem dX11_hostsOf_2 : decode cX11_hostsOf 2 = .ok (.iconst 1, 1) := by decide +kernel
theorem dX11_hostsOf_3 : decode cX11_hostsOf 3 = .ok (.istore_n 3, 1) := by decide +kernel
theorem dX11_hostsOf_4 : decode cX11_hostsOf 4 = .ok (.iload_n 3, 1) := by decide +kernel
theorem dX11_hostsOf_5 : decode cX11_hostsOf 5 = .ok (.ifCond .eq 47, 3) := by decide +kernel
theorem dX11_hostsOf_8 : decode cX11_hostsOf 8 = .ok (.iload_n 2, 1) := by decide +kernel
theorem dX11_hostsOf_9 : decode cX11_hostsOf 9 = .ok (.iconst 4, 1) := by decide +kernel
theorem dX11_hostsOf_10 : decode cX11_hostsOf 10 = .ok (.if_icmp .eq 13, 3) := by decide +kernel
theorem dX11_hostsOf_13 : decode cX11_hostsOf 13 = .ok (.aload_n 0, 1) := by decide +kernel
theorem dX11_hostsOf_14 : decode cX11_hostsOf 14 = .ok (.sipush 255, 3) := by decide +kernel
theorem dX11_hostsOf_17 : decode cX11_hostsOf 17 = .ok (.invokevirtual 157, 3) := by decide +kernel
theorem dX11_hostsOf_20 : decode cX11_hostsOf 20 = .ok (.ifCond .ne 5, 3) := by decide +kernel
theorem dX11_hostsOf_23 : decode cX11_hostsOf 23 = .ok (.iconst 0, 1) := by decide +kernel
theorem dX11_hostsOf_24 : decode cX11_hostsOf 24 = .ok (.ireturn, 1) := by decide +kernel
theorem dX11_hostsOf_25 : decode cX11_hostsOf 25 = .ok (.aload_n 0, 1) := by decide +kernel
theorem dX11_hostsOf_26 : decode cX11_hostsOf 26 = .ok (.getfield 91, 3) := by decide +kernel
theorem dX11_hostsOf_29 : decode cX11_hostsOf 29 = .ok (.iconst 4, 1) := by decide +kernel
theorem dX11_hostsOf_30 : decode cX11_hostsOf 30 = .ok (.iload_n 1, 1) := by decide +kernel
theorem dX11_hostsOf_31 : decode cX11_hostsOf 31 = .ok (.imul, 1) := by decide +kernel
theorem dX11_hostsOf_32 : decode cX11_hostsOf 32 = .ok (.iload_n 2, 1) := by decide +kernel
theorem dX11_hostsOf_33 : decode cX11_hostsOf 33 = .ok (.iadd, 1) := by decide +kernel
theorem dX11_hostsOf_34 : decode cX11_hostsOf 34 = .ok (.aload_n 0, 1) := by decide +kernel
theorem dX11_hostsOf_35 : decode cX11_hostsOf 35 = .ok (.getfield 132, 3) := by decide +kernel
theorem dX11_hostsOf_38 : decode cX11_hostsOf 38 = .ok (.iastore, 1) := by decide +kernel
theorem dX11_hostsOf_39 : decode cX11_hostsOf 39 = .ok (.iinc 2 1, 3) := by decide +kernel
theorem dX11_hostsOf_42 : decode cX11_hostsOf 42 = .ok (.aload_n 0, 1) := by decide +kernel
theorem dX11_hostsOf_43 : decode cX11_hostsOf 43 = .ok (.bipush 44, 2) := by decide +kernel
theorem dX11_hostsOf_45 : decode cX11_hostsOf 45 = .ok (.invokevirtual 146, 3) := by decide +kernel
theorem dX11_hostsOf_48 : decode cX11_hostsOf 48 = .ok (.istore_n 3, 1) := by decide +kernel
theorem dX11_hostsOf_49 : decode cX11_hostsOf 49 = .ok (.goto (-45), 3) := by decide +kernel
theorem dX11_hostsOf_52 : decode cX11_hostsOf 52 = .ok (.aload_n 0, 1) := by decide +kernel
theorem dX11_hostsOf_53 : decode cX11_hostsOf 53 = .ok (.getfield 88, 3) := by decide +kernel
theorem dX11_hostsOf_56 : decode cX11_hostsOf 56 = .ok (.iload_n 1, 1) := by decide +kernel
theorem dX11_hostsOf_57 : decode cX11_hostsOf 57 = .ok (.iload_n 2, 1) := by decide +kernel
theorem dX11_hostsOf_58 : decode cX11_hostsOf 58 = .ok (.iastore, 1) := by decide +kernel
theorem dX11_hostsOf_59 : decode cX11_hostsOf 59 = .ok (.iconst 1, 1) := by decide +kernel
theorem dX11_hostsOf_60 : decode cX11_hostsOf 60 = .ok (.ireturn, 1) := by decide +kernel
theorem dX11_exchangersOf_0 : decode cX11_exchangersOf 0 = .ok (.iconst 0, 1) := by decide +kernel
theorem dX11_exchangersOf_1 : decode cX11_exchangersOf 1 = .ok (.istore_n 2, 1) := by decide +kernel
theorem dX11_exchangersOf_2 : decode cX11_exchangersOf 2 = .ok (.iconst 1, 1) := by decide +kernel
theorem dX11_exchangersOf_3 : decode cX11_exchangersOf 3 = .ok (.istore_n 3, 1) := by decide +kernel
theorem dX11_exchangersOf_4 : decode cX11_exchangersOf 4 = .ok (.iload_n 3, 1) := by decide +kernel
theorem dX11_exchangersOf_5 : decode cX11_exchangersOf 5 = .ok (.ifCond .eq 44, 3) := by decide +kernel
theorem dX11_exchangersOf_8 : decode cX11_exchangersOf 8 = .ok (.iload_n 2, 1) := by decide +kernel
theorem dX11_exchangersOf_9 : decode cX11_exchangersOf 9 = .ok (.iconst 3, 1) := by decide +kernel
theorem dX11_exchangersOf_10 : decode cX11_exchangersOf 10 = .ok (.if_icmp .eq 10, 3) := by decide +kernel
theorem dX11_exchangersOf_13 : decode cX11_exchangersOf 13 = .ok (.aload_n 0, 1) := by decide +kernel
theorem dX11_exchangersOf_14 : decode cX11_exchangersOf 14 = .ok (.invokevirtual 163, 3) := by decide +kernel
theorem dX11_exchangersOf_17 : decode cX11_exchangersOf 17 = .ok (.ifCond .ne 5, 3) := by decide +kernel
theorem dX11_exchangersOf_20 : decode cX11_exchangersOf 20 = .ok (.iconst 0, 1) := by decide +kernel
theorem dX11_exchangersOf_21 : decode cX11_exchangersOf 21 = .ok (.ireturn, 1) := by decide +kernel
theorem dX11_exchangersOf_22 : decode cX11_exchangersOf 22 = .ok (.aload_n 0, 1) := by decide +kernel
theorem dX11_exchangersOf_23 : decode cX11_exchangersOf 23 = .ok (.getfield 64, 3) := by decide +kernel
theorem dX11_exchangersOf_26 : decode cX11_exchangersOf 26 = .ok (.iconst 3, 1) := by decide +kernel
theorem dX11_exchangersOf_27 : decode cX11_exchangersOf 27 = .ok (.iload_n 1, 1) := by decide +kernel
theorem dX11_exchangersOf_28 : decode cX11_exchangersOf 28 = .ok (.imul, 1) := by decide +kernel
theorem dX11_exchangersOf_29 : decode cX11_exchangersOf 29 = .ok (.iload_n 2, 1) := by decide +kernel
theorem dX11_exchangersOf_30 : decode cX11_exchangersOf 30 = .ok (.iadd, 1) := by decide +kernel
theorem dX11_exchangersOf_31 : decode cX11_exchangersOf 31 = .ok (.aload_n 0, 1) := by decide +kernel
theorem dX11_exchangersOf_32 : decode cX11_exchangersOf 32 = .ok (.getfield 132, 3) := by decide +kernel
theorem dX11_exchangersOf_35 : decode cX11_exchangersOf 35 = .ok (.iastore, 1) := by decide +kernel
theorem dX11_exchangersOf_36 : decode cX11_exchangersOf 36 = .ok (.iinc 2 1, 3) := by decide +kernel
theorem dX11_exchangersOf_39 : decode cX11_exchangersOf 39 = .ok (.aload_n 0, 1) := by decide +kernel
theorem dX11_exchangersOf_40 : decode cX11_exchangersOf 40 = .ok (.bipush 44, 2) := by decide +kernel
theorem dX11_exchangersOf_42 : decode cX11_exchangersOf 42 = .ok (.invokevirtual 146, 3) := by decide +kernel
theorem dX11_exchangersOf_45 : decode cX11_exchangersOf 45 = .ok (.istore_n 3, 1) := by decide +kernel
theorem dX11_exchangersOf_46 : decode cX11_exchangersOf 46 = .ok (.goto (-42), 3) := by decide +kernel
theorem dX11_exchangersOf_49 : decode cX11_exchangersOf 49 = .ok (.aload_n 0, 1) := by decide +kernel
theorem dX11_exchangersOf_50 : decode cX11_exchangersOf 50 = .ok (.getfield 61, 3) := by decide +kernel
theorem dX11_exchangersOf_53 : decode cX11_exchangersOf 53 = .ok (.iload_n 1, 1) := by decide +kernel
theorem dX11_exchangersOf_54 : decode cX11_exchangersOf 54 = .ok (.iload_n 2, 1) := by decide +kernel
theorem dX11_exchangersOf_55 : decode cX11_exchangersOf 55 = .ok (.iastore, 1) := by decide +kernel
theorem dX11_exchangersOf_56 : decode cX11_exchangersOf 56 = .ok (.iconst 1, 1) := by decide +kernel
theorem dX11_exchangersOf_57 : decode cX11_exchangersOf 57 = .ok (.ireturn, 1) := by decide +kernel
theorem dX11_item_0 : decode cX11_item 0 = .ok (.aload_n 0, 1) := by decide +kernel
theorem dX11_item_1 : decode cX11_item 1 = .ok (.invokevirtual 129, 3) := by decide +kernel
theorem dX11_item_4 : decode cX11_item 4 = .ok (.istore_n 1, 1) := by decide +kernel
theorem dX11_item_5 : decode cX11_item 5 = .ok (.aload_n 0, 1) := by decide +kernel
theorem dX11_item_6 : decode cX11_item 6 = .ok (.dup, 1) := by decide +kernel
theorem dX11_item_7 : decode cX11_item 7 = .ok (.getfield 126, 3) := by decide +kernel
theorem dX11_item_10 : decode cX11_item 10 = .ok (.iconst 1, 1) := by decide +kernel
theorem dX11_item_11 : decode cX11_item 11 = .ok (.iadd, 1) := by decide +kernel
theorem dX11_item_12 : decode cX11_item 12 = .ok (.putfield 126, 3) := by decide +kernel
theorem dX11_item_15 : decode cX11_item 15 = .ok (.iload_n 1, 1) := by decide +kernel
theorem dX11_item_16 : decode cX11_item 16 = .ok (.bipush 110, 2) := by decide +kernel
theorem dX11_item_18 : decode cX11_item 18 = .ok (.if_icmp .eq 15, 3) := by decide +kernel
theorem dX11_item_21 : decode cX11_item 21 = .ok (.iload_n 1, 1) := by decide +kernel
theorem dX11_item_22 : decode cX11_item 22 = .ok (.bipush 97, 2) := by decide +kernel
theorem dX11_item_24 : decode cX11_item 24 = .ok (.if_icmp .eq 9, 3) := by decide +kernel
theorem dX11_item_27 : decode cX11_item 27 = .ok (.iload_n 1, 1) := by decide +kernel
theorem dX11_item_28 : decode cX11_item 28 = .ok (.bipush 120, 2) := by decide +kernel
theorem dX11_item_30 : decode cX11_item 30 = .ok (.if_icmp .ne 19, 3) := by decide +kernel
theorem dX11_item_33 : decode cX11_item 33 = .ok (.aload_n 0, 1) := by decide +kernel
theorem dX11_item_34 : decode cX11_item 34 = .ok (.invokevirtual 163, 3) := by decide +kernel
theorem dX11_item_37 : decode cX11_item 37 = .ok (.ifCond .eq 12, 3) := by decide +kernel
theorem dX11_item_40 : decode cX11_item 40 = .ok (.aload_n 0, 1) := by decide +kernel
theorem dX11_item_41 : decode cX11_item 41 = .ok (.bipush 58, 2) := by decide +kernel
theorem dX11_item_43 : decode cX11_item 43 = .ok (.invokevirtual 146, 3) := by decide +kernel
theorem dX11_item_46 : decode cX11_item 46 = .ok (.ifCond .ne 5, 3) := by decide +kernel
theorem dX11_item_49 : decode cX11_item 49 = .ok (.iconst 0, 1) := by decide +kernel
theorem dX11_item_50 : decode cX11_item 50 = .ok (.ireturn, 1) := by decide +kernel
theorem dX11_item_51 : decode cX11_item 51 = .ok (.aload_n 0, 1) := by decide +kernel
theorem dX11_item_52 : decode cX11_item 52 = .ok (.aload_n 0, 1) := by decide +kernel
theorem dX11_item_53 : decode cX11_item 53 = .ok (.getfield 132, 3) := by decide +kernel
theorem dX11_item_56 : decode cX11_item 56 = .ok (.invokevirtual 172, 3) := by decide +kernel
theorem dX11_item_59 : decode cX11_item 59 = .ok (.istore_n 2, 1) := by decide +kernel
theorem dX11_item_60 : decode cX11_item 60 = .ok (.iload_n 2, 1) := by decide +kernel
theorem dX11_item_61 : decode cX11_item 61 = .ok (.bipush (-4), 2) := by decide +kernel
theorem dX11_item_63 : decode cX11_item 63 = .ok (.if_icmp .ne 5, 3) := by decide +kernel
theorem dX11_item_66 : decode cX11_item 66 = .ok (.iconst 0, 1) := by decide +kernel
theorem dX11_item_67 : decode cX11_item 67 = .ok (.ireturn, 1) := by decide +kernel
theorem dX11_item_68 : decode cX11_item 68 = .ok (.iload_n 1, 1) := by decide +kernel
theorem dX11_item_69 : decode cX11_item 69 = .ok (.bipush 110, 2) := by decide +kernel
theorem dX11_item_71 : decode cX11_item 71 = .ok (.if_icmp .ne 11, 3) := by decide +kernel
theorem dX11_item_74 : decode cX11_item 74 = .ok (.aload_n 0, 1) := by decide +kernel
theorem dX11_item_75 : decode cX11_item 75 = .ok (.iload_n 2, 1) := by decide +kernel
theorem dX11_item_76 : decode cX11_item 76 = .ok (.invokevirtual 175, 3) := by decide +kernel
theorem dX11_item_79 : decode cX11_item 79 = .ok (.goto 22, 3) := by decide +kernel
theorem dX11_item_82 : decode cX11_item 82 = .ok (.iload_n 1, 1) := by decide +kernel
theorem dX11_item_83 : decode cX11_item 83 = .ok (.bipush 97, 2) := by decide +kernel
theorem dX11_item_85 : decode cX11_item 85 = .ok (.if_icmp .ne 11, 3) := by decide +kernel
theorem dX11_item_88 : decode cX11_item 88 = .ok (.aload_n 0, 1) := by decide +kernel
theorem dX11_item_89 : decode cX11_item 89 = .ok (.iload_n 2, 1) := by decide +kernel
theorem dX11_item_90 : decode cX11_item 90 = .ok (.invokevirtual 178, 3) := by decide +kernel
theorem dX11_item_93 : decode cX11_item 93 = .ok (.goto 8, 3) := by decide +kernel
theorem dX11_item_96 : decode cX11_item 96 = .ok (.aload_n 0, 1) := by decide +kernel
theorem dX11_item_97 : decode cX11_item 97 = .ok (.iload_n 2, 1) := by decide +kernel
theorem dX11_item_98 : decode cX11_item 98 = .ok (.invokevirtual 181, 3) := by decide +kernel
theorem dX11_item_101 : decode cX11_item 101 = .ok (.istore_n 3, 1) := by decide +kernel
theorem dX11_item_102 : decode cX11_item 102 = .ok (.iload_n 3, 1) := by decide +kernel
theorem dX11_item_103 : decode cX11_item 103 = .ok (.ifCond .eq 16, 3) := by decide +kernel
theorem dX11_item_106 : decode cX11_item 106 = .ok (.aload_n 0, 1) := by decide +kernel
theorem dX11_item_107 : decode cX11_item 107 = .ok (.bipush 59, 2) := by decide +kernel
theorem dX11_item_109 : decode cX11_item 109 = .ok (.invokevirtual 146, 3) := by decide +kernel
theorem dX11_item_112 : decode cX11_item 112 = .ok (.ifCond .eq 7, 3) := by decide +kernel
theorem dX11_item_115 : decode cX11_item 115 = .ok (.iconst 1, 1) := by decide +kernel
theorem dX11_item_116 : decode cX11_item 116 = .ok (.goto 4, 3) := by decide +kernel
theorem dX11_item_119 : decode cX11_item 119 = .ok (.iconst 0, 1) := by decide +kernel
theorem dX11_item_120 : decode cX11_item 120 = .ok (.ireturn, 1) := by decide +kernel
theorem dX11_reads_0 : decode cX11_reads 0 = .ok (.aload_n 0, 1) := by decide +kernel
theorem dX11_reads_1 : decode cX11_reads 1 = .ok (.iconst 0, 1) := by decide +kernel
theorem dX11_reads_2 : decode cX11_reads 2 = .ok (.putfield 143, 3) := by decide +kernel
theorem dX11_reads_5 : decode cX11_reads 5 = .ok (.aload_n 0, 1) := by decide +kernel
theorem dX11_reads_6 : decode cX11_reads 6 = .ok (.iconst 0, 1) := by decide +kernel
theorem dX11_reads_7 : decode cX11_reads 7 = .ok (.putfield 126, 3) := by decide +kernel
theorem dX11_reads_10 : decode cX11_reads 10 = .ok (.aload_n 0, 1) := by decide +kernel
theorem dX11_reads_11 : decode cX11_reads 11 = .ok (.getfield 126, 3) := by decide +kernel
theorem dX11_reads_14 : decode cX11_reads 14 = .ok (.aload_n 0, 1) := by decide +kernel
theorem dX11_reads_15 : decode cX11_reads 15 = .ok (.getfield 114, 3) := by decide +kernel
theorem dX11_reads_18 : decode cX11_reads 18 = .ok (.if_icmp .ge 20, 3) := by decide +kernel
theorem dX11_reads_21 : decode cX11_reads 21 = .ok (.aload_n 0, 1) := by decide +kernel
theorem dX11_reads_22 : decode cX11_reads 22 = .ok (.getfield 126, 3) := by decide +kernel
theorem dX11_reads_25 : decode cX11_reads 25 = .ok (.istore_n 1, 1) := by decide +kernel
theorem dX11_reads_26 : decode cX11_reads 26 = .ok (.aload_n 0, 1) := by decide +kernel
theorem dX11_reads_27 : decode cX11_reads 27 = .ok (.invokevirtual 184, 3) := by decide +kernel
theorem dX11_reads_30 : decode cX11_reads 30 = .ok (.ifCond .ne 5, 3) := by decide +kernel
theorem dX11_reads_33 : decode cX11_reads 33 = .ok (.iload_n 1, 1) := by decide +kernel
theorem dX11_reads_34 : decode cX11_reads 34 = .ok (.ireturn, 1) := by decide +kernel
theorem dX11_reads_35 : decode cX11_reads 35 = .ok (.goto (-25), 3) := by decide +kernel
theorem dX11_reads_38 : decode cX11_reads 38 = .ok (.bipush (-4), 2) := by decide +kernel
theorem dX11_reads_40 : decode cX11_reads 40 = .ok (.ireturn, 1) := by decide +kernel
theorem dX11_write_0 : decode cX11_write 0 = .ok (.iload_n 1, 1) := by decide +kernel
theorem dX11_write_1 : decode cX11_write 1 = .ok (.bipush 32, 2) := by decide +kernel
theorem dX11_write_3 : decode cX11_write 3 = .ok (.if_icmp .lt 9, 3) := by decide +kernel
theorem dX11_write_6 : decode cX11_write 6 = .ok (.iload_n 1, 1) := by decide +kernel
theorem dX11_write_7 : decode cX11_write 7 = .ok (.bipush 126, 2) := by decide +kernel
theorem dX11_write_9 : decode cX11_write 9 = .ok (.if_icmp .le 5, 3) := by decide +kernel
theorem dX11_write_12 : decode cX11_write 12 = .ok (.iconst (-1), 1) := by decide +kernel
theorem dX11_write_13 : decode cX11_write 13 = .ok (.ireturn, 1) := by decide +kernel
theorem dX11_write_14 : decode cX11_write 14 = .ok (.aload_n 0, 1) := by decide +kernel
theorem dX11_write_15 : decode cX11_write 15 = .ok (.getfield 114, 3) := by decide +kernel
theorem dX11_write_18 : decode cX11_write 18 = .ok (.sipush 240, 3) := by decide +kernel
theorem dX11_write_21 : decode cX11_write 21 = .ok (.if_icmp .ne 6, 3) := by decide +kernel
theorem dX11_write_24 : decode cX11_write 24 = .ok (.bipush (-3), 2) := by decide +kernel
theorem dX11_write_26 : decode cX11_write 26 = .ok (.ireturn, 1) := by decide +kernel
theorem dX11_write_27 : decode cX11_write 27 = .ok (.aload_n 0, 1) := by decide +kernel
theorem dX11_write_28 : decode cX11_write 28 = .ok (.getfield 7, 3) := by decide +kernel
theorem dX11_write_31 : decode cX11_write 31 = .ok (.aload_n 0, 1) := by decide +kernel
theorem dX11_write_32 : decode cX11_write 32 = .ok (.getfield 114, 3) := by decide +kernel
theorem dX11_write_35 : decode cX11_write 35 = .ok (.iload_n 1, 1) := by decide +kernel
theorem dX11_write_36 : decode cX11_write 36 = .ok (.iastore, 1) := by decide +kernel
theorem dX11_write_37 : decode cX11_write 37 = .ok (.aload_n 0, 1) := by decide +kernel
theorem dX11_write_38 : decode cX11_write 38 = .ok (.dup, 1) := by decide +kernel
theorem dX11_write_39 : decode cX11_write 39 = .ok (.getfield 114, 3) := by decide +kernel
theorem dX11_write_42 : decode cX11_write 42 = .ok (.iconst 1, 1) := by decide +kernel
theorem dX11_write_43 : decode cX11_write 43 = .ok (.iadd, 1) := by decide +kernel
theorem dX11_write_44 : decode cX11_write 44 = .ok (.putfield 114, 3) := by decide +kernel
theorem dX11_write_47 : decode cX11_write 47 = .ok (.aload_n 0, 1) := by decide +kernel
theorem dX11_write_48 : decode cX11_write 48 = .ok (.getfield 114, 3) := by decide +kernel
theorem dX11_write_51 : decode cX11_write 51 = .ok (.ireturn, 1) := by decide +kernel
theorem dX11_wipe_0 : decode cX11_wipe 0 = .ok (.aload_n 0, 1) := by decide +kernel
theorem dX11_wipe_1 : decode cX11_wipe 1 = .ok (.getfield 114, 3) := by decide +kernel
theorem dX11_wipe_4 : decode cX11_wipe 4 = .ok (.istore_n 1, 1) := by decide +kernel
theorem dX11_wipe_5 : decode cX11_wipe 5 = .ok (.aload_n 0, 1) := by decide +kernel
theorem dX11_wipe_6 : decode cX11_wipe 6 = .ok (.iconst 0, 1) := by decide +kernel
theorem dX11_wipe_7 : decode cX11_wipe 7 = .ok (.putfield 114, 3) := by decide +kernel
theorem dX11_wipe_10 : decode cX11_wipe 10 = .ok (.iload_n 1, 1) := by decide +kernel
theorem dX11_wipe_11 : decode cX11_wipe 11 = .ok (.ireturn, 1) := by decide +kernel
theorem dX11_fault_0 : decode cX11_fault 0 = .ok (.aload_n 0, 1) := by decide +kernel
theorem dX11_fault_1 : decode cX11_fault 1 = .ok (.invokevirtual 187, 3) := by decide +kernel
theorem dX11_fault_4 : decode cX11_fault 4 = .ok (.ireturn, 1) := by decide +kernel
theorem dX11_takes_0 : decode cX11_takes 0 = .ok (.aload_n 0, 1) := by decide +kernel
theorem dX11_takes_1 : decode cX11_takes 1 = .ok (.getfield 13, 3) := by decide +kernel
theorem dX11_takes_4 : decode cX11_takes 4 = .ok (.iload_n 2, 1) := by decide +kernel
theorem dX11_takes_5 : decode cX11_takes 5 = .ok (.aload_n 0, 1) := by decide +kernel
theorem dX11_takes_6 : decode cX11_takes 6 = .ok (.getfield 52, 3) := by decide +kernel
theorem dX11_takes_9 : decode cX11_takes 9 = .ok (.iload_n 1, 1) := by decide +kernel
theorem dX11_takes_10 : decode cX11_takes 10 = .ok (.iaload, 1) := by decide +kernel
theorem dX11_takes_11 : decode cX11_takes 11 = .ok (.iastore, 1) := by decide +kernel
theorem dX11_takes_12 : decode cX11_takes 12 = .ok (.aload_n 0, 1) := by decide +kernel
theorem dX11_takes_13 : decode cX11_takes 13 = .ok (.getfield 16, 3) := by decide +kernel
theorem dX11_takes_16 : decode cX11_takes 16 = .ok (.iload_n 2, 1) := by decide +kernel
theorem dX11_takes_17 : decode cX11_takes 17 = .ok (.aload_n 0, 1) := by decide +kernel
theorem dX11_takes_18 : decode cX11_takes 18 = .ok (.getfield 55, 3) := by decide +kernel
theorem dX11_takes_21 : decode cX11_takes 21 = .ok (.iload_n 1, 1) := by decide +kernel
theorem dX11_takes_22 : decode cX11_takes 22 = .ok (.iaload, 1) := by decide +kernel
theorem dX11_takes_23 : decode cX11_takes 23 = .ok (.iastore, 1) := by decide +kernel
theorem dX11_takes_24 : decode cX11_takes 24 = .ok (.aload_n 0, 1) := by decide +kernel
theorem dX11_takes_25 : decode cX11_takes 25 = .ok (.getfield 19, 3) := by decide +kernel
theorem dX11_takes_28 : decode cX11_takes 28 = .ok (.iload_n 2, 1) := by decide +kernel
theorem dX11_takes_29 : decode cX11_takes 29 = .ok (.aload_n 0, 1) := by decide +kernel
theorem dX11_takes_30 : decode cX11_takes 30 = .ok (.getfield 58, 3) := by decide +kernel
theorem dX11_takes_33 : decode cX11_takes 33 = .ok (.iload_n 1, 1) := by decide +kernel
theorem dX11_takes_34 : decode cX11_takes 34 = .ok (.iaload, 1) := by decide +kernel
theorem dX11_takes_35 : decode cX11_takes 35 = .ok (.iastore, 1) := by decide +kernel
theorem dX11_takes_36 : decode cX11_takes 36 = .ok (.aload_n 0, 1) := by decide +kernel
theorem dX11_takes_37 : decode cX11_takes 37 = .ok (.getfield 22, 3) := by decide +kernel
theorem dX11_takes_40 : decode cX11_takes 40 = .ok (.iload_n 2, 1) := by decide +kernel
theorem dX11_takes_41 : decode cX11_takes 41 = .ok (.aload_n 0, 1) := by decide +kernel
theorem dX11_takes_42 : decode cX11_takes 42 = .ok (.getfield 61, 3) := by decide +kernel
theorem dX11_takes_45 : decode cX11_takes 45 = .ok (.iload_n 1, 1) := by decide +kernel
theorem dX11_takes_46 : decode cX11_takes 46 = .ok (.iaload, 1) := by decide +kernel
theorem dX11_takes_47 : decode cX11_takes 47 = .ok (.iastore, 1) := by decide +kernel
theorem dX11_takes_48 : decode cX11_takes 48 = .ok (.iconst 0, 1) := by decide +kernel
theorem dX11_takes_49 : decode cX11_takes 49 = .ok (.istore_n 3, 1) := by decide +kernel
theorem dX11_takes_50 : decode cX11_takes 50 = .ok (.iload_n 3, 1) := by decide +kernel
theorem dX11_takes_51 : decode cX11_takes 51 = .ok (.iconst 3, 1) := by decide +kernel
theorem dX11_takes_52 : decode cX11_takes 52 = .ok (.if_icmp .ge 29, 3) := by decide +kernel
theorem dX11_takes_55 : decode cX11_takes 55 = .ok (.aload_n 0, 1) := by decide +kernel
theorem dX11_takes_56 : decode cX11_takes 56 = .ok (.getfield 25, 3) := by decide +kernel
theorem dX11_takes_59 : decode cX11_takes 59 = .ok (.iconst 3, 1) := by decide +kernel
theorem dX11_takes_60 : decode cX11_takes 60 = .ok (.iload_n 2, 1) := by decide +kernel
theorem dX11_takes_61 : decode cX11_takes 61 = .ok (.imul, 1) := by decide +kernel
theorem dX11_takes_62 : decode cX11_takes 62 = .ok (.iload_n 3, 1) := by decide +kernel
theorem dX11_takes_63 : decode cX11_takes 63 = .ok (.iadd, 1) := by decide +kernel
theorem dX11_takes_64 : decode cX11_takes 64 = .ok (.aload_n 0, 1) := by decide +kernel
theorem dX11_takes_65 : decode cX11_takes 65 = .ok (.getfield 64, 3) := by decide +kernel
theorem dX11_takes_68 : decode cX11_takes 68 = .ok (.iconst 3, 1) := by decide +kernel
theorem dX11_takes_69 : decode cX11_takes 69 = .ok (.iload_n 1, 1) := by decide +kernel
theorem dX11_takes_70 : decode cX11_takes 70 = .ok (.imul, 1) := by decide +kernel
theorem dX11_takes_71 : decode cX11_takes 71 = .ok (.iload_n 3, 1) := by decide +kernel
theorem dX11_takes_72 : decode cX11_takes 72 = .ok (.iadd, 1) := by decide +kernel
theorem dX11_takes_73 : decode cX11_takes 73 = .ok (.iaload, 1) := by decide +kernel
theorem dX11_takes_74 : decode cX11_takes 74 = .ok (.iastore, 1) := by decide +kernel
theorem dX11_takes_75 : decode cX11_takes 75 = .ok (.iinc 3 1, 3) := by decide +kernel
theorem dX11_takes_78 : decode cX11_takes 78 = .ok (.goto (-28), 3) := by decide +kernel
theorem dX11_takes_81 : decode cX11_takes 81 = .ok (.aload_n 0, 1) := by decide +kernel
theorem dX11_takes_82 : decode cX11_takes 82 = .ok (.getfield 46, 3) := by decide +kernel
theorem dX11_takes_85 : decode cX11_takes 85 = .ok (.bipush 21, 2) := by decide +kernel
theorem dX11_takes_87 : decode cX11_takes 87 = .ok (.iload_n 2, 1) := by decide +kernel
theorem dX11_takes_88 : decode cX11_takes 88 = .ok (.imul, 1) := by decide +kernel
theorem dX11_takes_89 : decode cX11_takes 89 = .ok (.bipush 16, 2) := by decide +kernel
theorem dX11_takes_91 : decode cX11_takes 91 = .ok (.iadd, 1) := by decide +kernel
theorem dX11_takes_92 : decode cX11_takes 92 = .ok (.aload_n 0, 1) := by decide +kernel
theorem dX11_takes_93 : decode cX11_takes 93 = .ok (.getfield 88, 3) := by decide +kernel
theorem dX11_takes_96 : decode cX11_takes 96 = .ok (.iload_n 1, 1) := by decide +kernel
theorem dX11_takes_97 : decode cX11_takes 97 = .ok (.iaload, 1) := by decide +kernel
theorem dX11_takes_98 : decode cX11_takes 98 = .ok (.iastore, 1) := by decide +kernel
theorem dX11_takes_99 : decode cX11_takes 99 = .ok (.iconst 0, 1) := by decide +kernel
theorem dX11_takes_100 : decode cX11_takes 100 = .ok (.istore_n 3, 1) := by decide +kernel
theorem dX11_takes_101 : decode cX11_takes 101 = .ok (.iload_n 3, 1) := by decide +kernel
theorem dX11_takes_102 : decode cX11_takes 102 = .ok (.iconst 4, 1) := by decide +kernel
theorem dX11_takes_103 : decode cX11_takes 103 = .ok (.if_icmp .ge 33, 3) := by decide +kernel
theorem dX11_takes_106 : decode cX11_takes 106 = .ok (.aload_n 0, 1) := by decide +kernel
theorem dX11_takes_107 : decode cX11_takes 107 = .ok (.getfield 46, 3) := by decide +kernel
theorem dX11_takes_110 : decode cX11_takes 110 = .ok (.bipush 21, 2) := by decide +kernel
theorem dX11_takes_112 : decode cX11_takes 112 = .ok (.iload_n 2, 1) := by decide +kernel
theorem dX11_takes_113 : decode cX11_takes 113 = .ok (.imul, 1) := by decide +kernel
theorem dX11_takes_114 : decode cX11_takes 114 = .ok (.bipush 17, 2) := by decide +kernel
theorem dX11_takes_116 : decode cX11_takes 116 = .ok (.iadd, 1) := by decide +kernel
theorem dX11_takes_117 : decode cX11_takes 117 = .ok (.iload_n 3, 1) := by decide +kernel
theorem dX11_takes_118 : decode cX11_takes 118 = .ok (.iadd, 1) := by decide +kernel
theorem dX11_takes_119 : decode cX11_takes 119 = .ok (.aload_n 0, 1) := by decide +kernel
theorem dX11_takes_120 : decode cX11_takes 120 = .ok (.getfield 91, 3) := by decide +kernel
theorem dX11_takes_123 : decode cX11_takes 123 = .ok (.iconst 4, 1) := by decide +kernel
theorem dX11_takes_124 : decode cX11_takes 124 = .ok (.iload_n 1, 1) := by decide +kernel
theorem dX11_takes_125 : decode cX11_takes 125 = .ok (.imul, 1) := by decide +kernel
theorem dX11_takes_126 : decode cX11_takes 126 = .ok (.iload_n 3, 1) := by decide +kernel
theorem dX11_takes_127 : decode cX11_takes 127 = .ok (.iadd, 1) := by decide +kernel
theorem dX11_takes_128 : decode cX11_takes 128 = .ok (.iaload, 1) := by decide +kernel
theorem dX11_takes_129 : decode cX11_takes 129 = .ok (.iastore, 1) := by decide +kernel
theorem dX11_takes_130 : decode cX11_takes 130 = .ok (.iinc 3 1, 3) := by decide +kernel
theorem dX11_takes_133 : decode cX11_takes 133 = .ok (.goto (-32), 3) := by decide +kernel
theorem dX11_takes_136 : decode cX11_takes 136 = .ok (.iconst 0, 1) := by decide +kernel
theorem dX11_takes_137 : decode cX11_takes 137 = .ok (.istore_n 3, 1) := by decide +kernel
theorem dX11_takes_138 : decode cX11_takes 138 = .ok (.iload_n 3, 1) := by decide +kernel
theorem dX11_takes_139 : decode cX11_takes 139 = .ok (.bipush 8, 2) := by decide +kernel
theorem dX11_takes_141 : decode cX11_takes 141 = .ok (.if_icmp .ge 170, 3) := by decide +kernel
theorem dX11_takes_144 : decode cX11_takes 144 = .ok (.bipush 8, 2) := by decide +kernel
theorem dX11_takes_146 : decode cX11_takes 146 = .ok (.iload_n 1, 1) := by decide +kernel
theorem dX11_takes_147 : decode cX11_takes 147 = .ok (.imul, 1) := by decide +kernel
theorem dX11_takes_148 : decode cX11_takes 148 = .ok (.iload_n 3, 1) := by decide +kernel
theorem dX11_takes_149 : decode cX11_takes 149 = .ok (.iadd, 1) := by decide +kernel
theorem dX11_takes_150 : decode cX11_takes 150 = .ok (.istore 4, 2) := by decide +kernel
theorem dX11_takes_152 : decode cX11_takes 152 = .ok (.bipush 8, 2) := by decide +kernel
theorem dX11_takes_154 : decode cX11_takes 154 = .ok (.iload_n 2, 1) := by decide +kernel
theorem dX11_takes_155 : decode cX11_takes 155 = .ok (.imul, 1) := by decide +kernel
theorem dX11_takes_156 : decode cX11_takes 156 = .ok (.iload_n 3, 1) := by decide +kernel
theorem dX11_takes_157 : decode cX11_takes 157 = .ok (.iadd, 1) := by decide +kernel
theorem dX11_takes_158 : decode cX11_takes 158 = .ok (.istore 5, 2) := by decide +kernel
theorem dX11_takes_160 : decode cX11_takes 160 = .ok (.aload_n 0, 1) := by decide +kernel
theorem dX11_takes_161 : decode cX11_takes 161 = .ok (.getfield 28, 3) := by decide +kernel
theorem dX11_takes_164 : decode cX11_takes 164 = .ok (.iload 5, 2) := by decide +kernel
theorem dX11_takes_166 : decode cX11_takes 166 = .ok (.aload_n 0, 1) := by decide +kernel
theorem dX11_takes_167 : decode cX11_takes 167 = .ok (.getfield 67, 3) := by decide +kernel
theorem dX11_takes_170 : decode cX11_takes 170 = .ok (.iload 4, 2) := by decide +kernel
theorem dX11_takes_172 : decode cX11_takes 172 = .ok (.iaload, 1) := by decide +kernel
theorem dX11_takes_173 : decode cX11_takes 173 = .ok (.iastore, 1) := by decide +kernel
theorem dX11_takes_174 : decode cX11_takes 174 = .ok (.aload_n 0, 1) := by decide +kernel
theorem dX11_takes_175 : decode cX11_takes 175 = .ok (.getfield 31, 3) := by decide +kernel
theorem dX11_takes_178 : decode cX11_takes 178 = .ok (.iload 5, 2) := by decide +kernel
theorem dX11_takes_180 : decode cX11_takes 180 = .ok (.aload_n 0, 1) := by decide +kernel
theorem dX11_takes_181 : decode cX11_takes 181 = .ok (.getfield 70, 3) := by decide +kernel
theorem dX11_takes_184 : decode cX11_takes 184 = .ok (.iload 4, 2) := by decide +kernel
theorem dX11_takes_186 : decode cX11_takes 186 = .ok (.iaload, 1) := by decide +kernel
theorem dX11_takes_187 : decode cX11_takes 187 = .ok (.iastore, 1) := by decide +kernel
theorem dX11_takes_188 : decode cX11_takes 188 = .ok (.aload_n 0, 1) := by decide +kernel
theorem dX11_takes_189 : decode cX11_takes 189 = .ok (.getfield 34, 3) := by decide +kernel
theorem dX11_takes_192 : decode cX11_takes 192 = .ok (.iload 5, 2) := by decide +kernel
theorem dX11_takes_194 : decode cX11_takes 194 = .ok (.aload_n 0, 1) := by decide +kernel
theorem dX11_takes_195 : decode cX11_takes 195 = .ok (.getfield 73, 3) := by decide +kernel
theorem dX11_takes_198 : decode cX11_takes 198 = .ok (.iload 4, 2) := by decide +kernel
theorem dX11_takes_200 : decode cX11_takes 200 = .ok (.iaload, 1) := by decide +kernel
theorem dX11_takes_201 : decode cX11_takes 201 = .ok (.iastore, 1) := by decide +kernel
theorem dX11_takes_202 : decode cX11_takes 202 = .ok (.aload_n 0, 1) := by decide +kernel
theorem dX11_takes_203 : decode cX11_takes 203 = .ok (.getfield 37, 3) := by decide +kernel
theorem dX11_takes_206 : decode cX11_takes 206 = .ok (.iload 5, 2) := by decide +kernel
theorem dX11_takes_208 : decode cX11_takes 208 = .ok (.aload_n 0, 1) := by decide +kernel
theorem dX11_takes_209 : decode cX11_takes 209 = .ok (.getfield 76, 3) := by decide +kernel
theorem dX11_takes_212 : decode cX11_takes 212 = .ok (.iload 4, 2) := by decide +kernel
theorem dX11_takes_214 : decode cX11_takes 214 = .ok (.iaload, 1) := by decide +kernel
theorem dX11_takes_215 : decode cX11_takes 215 = .ok (.iastore, 1) := by decide +kernel
theorem dX11_takes_216 : decode cX11_takes 216 = .ok (.aload_n 0, 1) := by decide +kernel
theorem dX11_takes_217 : decode cX11_takes 217 = .ok (.getfield 40, 3) := by decide +kernel
theorem dX11_takes_220 : decode cX11_takes 220 = .ok (.iload 5, 2) := by decide +kernel
theorem dX11_takes_222 : decode cX11_takes 222 = .ok (.aload_n 0, 1) := by decide +kernel
theorem dX11_takes_223 : decode cX11_takes 223 = .ok (.getfield 79, 3) := by decide +kernel
theorem dX11_takes_226 : decode cX11_takes 226 = .ok (.iload 4, 2) := by decide +kernel
theorem dX11_takes_228 : decode cX11_takes 228 = .ok (.iaload, 1) := by decide +kernel
theorem dX11_takes_229 : decode cX11_takes 229 = .ok (.iastore, 1) := by decide +kernel
theorem dX11_takes_230 : decode cX11_takes 230 = .ok (.aload_n 0, 1) := by decide +kernel
theorem dX11_takes_231 : decode cX11_takes 231 = .ok (.getfield 46, 3) := by decide +kernel
theorem dX11_takes_234 : decode cX11_takes 234 = .ok (.bipush 21, 2) := by decide +kernel
theorem dX11_takes_236 : decode cX11_takes 236 = .ok (.iload_n 2, 1) := by decide +kernel
theorem dX11_takes_237 : decode cX11_takes 237 = .ok (.imul, 1) := by decide +kernel
theorem dX11_takes_238 : decode cX11_takes 238 = .ok (.iload_n 3, 1) := by decide +kernel
theorem dX11_takes_239 : decode cX11_takes 239 = .ok (.iadd, 1) := by decide +kernel
theorem dX11_takes_240 : decode cX11_takes 240 = .ok (.iload_n 3, 1) := by decide +kernel
theorem dX11_takes_241 : decode cX11_takes 241 = .ok (.iastore, 1) := by decide +kernel
theorem dX11_takes_242 : decode cX11_takes 242 = .ok (.aload_n 0, 1) := by decide +kernel
theorem dX11_takes_243 : decode cX11_takes 243 = .ok (.getfield 46, 3) := by decide +kernel
theorem dX11_takes_246 : decode cX11_takes 246 = .ok (.bipush 21, 2) := by decide +kernel
theorem dX11_takes_248 : decode cX11_takes 248 = .ok (.iload_n 2, 1) := by decide +kernel
theorem dX11_takes_249 : decode cX11_takes 249 = .ok (.imul, 1) := by decide +kernel
theorem dX11_takes_250 : decode cX11_takes 250 = .ok (.bipush 8, 2) := by decide +kernel
theorem dX11_takes_252 : decode cX11_takes 252 = .ok (.iadd, 1) := by decide +kernel
theorem dX11_takes_253 : decode cX11_takes 253 = .ok (.iload_n 3, 1) := by decide +kernel
theorem dX11_takes_254 : decode cX11_takes 254 = .ok (.iadd, 1) := by decide +kernel
theorem dX11_takes_255 : decode cX11_takes 255 = .ok (.aload_n 0, 1) := by decide +kernel
theorem dX11_takes_256 : decode cX11_takes 256 = .ok (.getfield 85, 3) := by decide +kernel
theorem dX11_takes_259 : decode cX11_takes 259 = .ok (.iload 4, 2) := by decide +kernel
theorem dX11_takes_261 : decode cX11_takes 261 = .ok (.iaload, 1) := by decide +kernel
theorem dX11_takes_262 : decode cX11_takes 262 = .ok (.iastore, 1) := by decide +kernel
theorem dX11_takes_263 : decode cX11_takes 263 = .ok (.iconst 0, 1) := by decide +kernel
theorem dX11_takes_264 : decode cX11_takes 264 = .ok (.istore 6, 2) := by decide +kernel
theorem dX11_takes_266 : decode cX11_takes 266 = .ok (.iload 6, 2) := by decide +kernel
theorem dX11_takes_268 : decode cX11_takes 268 = .ok (.bipush 8, 2) := by decide +kernel
theorem dX11_takes_270 : decode cX11_takes 270 = .ok (.if_icmp .ge 35, 3) := by decide +kernel
theorem dX11_takes_273 : decode cX11_takes 273 = .ok (.aload_n 0, 1) := by decide +kernel
theorem dX11_takes_274 : decode cX11_takes 274 = .ok (.getfield 43, 3) := by decide +kernel
theorem dX11_takes_277 : decode cX11_takes 277 = .ok (.bipush 8, 2) := by decide +kernel
theorem dX11_takes_279 : decode cX11_takes 279 = .ok (.iload 5, 2) := by decide +kernel
theorem dX11_takes_281 : decode cX11_takes 281 = .ok (.imul, 1) := by decide +kernel
theorem dX11_takes_282 : decode cX11_takes 282 = .ok (.iload 6, 2) := by decide +kernel
theorem dX11_takes_284 : decode cX11_takes 284 = .ok (.iadd, 1) := by decide +kernel
theorem dX11_takes_285 : decode cX11_takes 285 = .ok (.aload_n 0, 1) := by decide +kernel
theorem dX11_takes_286 : decode cX11_takes 286 = .ok (.getfield 82, 3) := by decide +kernel
theorem dX11_takes_289 : decode cX11_takes 289 = .ok (.bipush 8, 2) := by decide +kernel
theorem dX11_takes_291 : decode cX11_takes 291 = .ok (.iload 4, 2) := by decide +kernel
theorem dX11_takes_293 : decode cX11_takes 293 = .ok (.imul, 1) := by decide +kernel
theorem dX11_takes_294 : decode cX11_takes 294 = .ok (.iload 6, 2) := by decide +kernel
theorem dX11_takes_296 : decode cX11_takes 296 = .ok (.iadd, 1) := by decide +kernel
theorem dX11_takes_297 : decode cX11_takes 297 = .ok (.iaload, 1) := by decide +kernel
theorem dX11_takes_298 : decode cX11_takes 298 = .ok (.iastore, 1) := by decide +kernel
theorem dX11_takes_299 : decode cX11_takes 299 = .ok (.iinc 6 1, 3) := by decide +kernel
theorem dX11_takes_302 : decode cX11_takes 302 = .ok (.goto (-36), 3) := by decide +kernel
theorem dX11_takes_305 : decode cX11_takes 305 = .ok (.iinc 3 1, 3) := by decide +kernel
theorem dX11_takes_308 : decode cX11_takes 308 = .ok (.goto (-170), 3) := by decide +kernel
theorem dX11_takes_311 : decode cX11_takes 311 = .ok (.return_, 1) := by decide +kernel
theorem dX11_lay_0 : decode cX11_lay 0 = .ok (.aload_n 0, 1) := by decide +kernel
theorem dX11_lay_1 : decode cX11_lay 1 = .ok (.invokevirtual 187, 3) := by decide +kernel
theorem dX11_lay_4 : decode cX11_lay 4 = .ok (.bipush (-4), 2) := by decide +kernel
theorem dX11_lay_6 : decode cX11_lay 6 = .ok (.if_icmp .eq 6, 3) := by decide +kernel
theorem dX11_lay_9 : decode cX11_lay 9 = .ok (.bipush (-2), 2) := by decide +kernel
theorem dX11_lay_11 : decode cX11_lay 11 = .ok (.ireturn, 1) := by decide +kernel
theorem dX11_lay_12 : decode cX11_lay 12 = .ok (.iconst 0, 1) := by decide +kernel
theorem dX11_lay_13 : decode cX11_lay 13 = .ok (.istore_n 1, 1) := by decide +kernel
theorem dX11_lay_14 : decode cX11_lay 14 = .ok (.iconst 0, 1) := by decide +kernel
theorem dX11_lay_15 : decode cX11_lay 15 = .ok (.istore_n 2, 1) := by decide +kernel
theorem dX11_lay_16 : decode cX11_lay 16 = .ok (.iload_n 2, 1) := by decide +kernel
theorem dX11_lay_17 : decode cX11_lay 17 = .ok (.aload_n 0, 1) := by decide +kernel
theorem dX11_lay_18 : decode cX11_lay 18 = .ok (.getfield 143, 3) := by decide +kernel
theorem dX11_lay_21 : decode cX11_lay 21 = .ok (.if_icmp .ge 28, 3) := by decide +kernel
theorem dX11_lay_24 : decode cX11_lay 24 = .ok (.iload_n 1, 1) := by decide +kernel
theorem dX11_lay_25 : decode cX11_lay 25 = .ok (.ifCond .ne 12, 3) := by decide +kernel
theorem dX11_lay_28 : decode cX11_lay 28 = .ok (.aload_n 0, 1) := by decide +kernel
theorem dX11_lay_29 : decode cX11_lay 29 = .ok (.getfield 55, 3) := by decide +kernel
theorem dX11_lay_32 : decode cX11_lay 32 = .ok (.iload_n 2, 1) := by decide +kernel
theorem dX11_lay_33 : decode cX11_lay 33 = .ok (.iaload, 1) := by decide +kernel
theorem dX11_lay_34 : decode cX11_lay 34 = .ok (.ifCond .le 7, 3) := by decide +kernel
theorem dX11_lay_37 : decode cX11_lay 37 = .ok (.iconst 1, 1) := by decide +kernel
theorem dX11_lay_38 : decode cX11_lay 38 = .ok (.goto 4, 3) := by decide +kernel
theorem dX11_lay_41 : decode cX11_lay 41 = .ok (.iconst 0, 1) := by decide +kernel
theorem dX11_lay_42 : decode cX11_lay 42 = .ok (.istore_n 1, 1) := by decide +kernel
theorem dX11_lay_43 : decode cX11_lay 43 = .ok (.iinc 2 1, 3) := by decide +kernel
theorem dX11_lay_46 : decode cX11_lay 46 = .ok (.goto (-30), 3) := by decide +kernel
theorem dX11_lay_49 : decode cX11_lay 49 = .ok (.iload_n 1, 1) := by decide +kernel
theorem dX11_lay_50 : decode cX11_lay 50 = .ok (.ifCond .ne 6, 3) := by decide +kernel
theorem dX11_lay_53 : decode cX11_lay 53 = .ok (.bipush (-2), 2) := by decide +kernel
theorem dX11_lay_55 : decode cX11_lay 55 = .ok (.ireturn, 1) := by decide +kernel
theorem dX11_lay_56 : decode cX11_lay 56 = .ok (.aload_n 0, 1) := by decide +kernel
theorem dX11_lay_57 : decode cX11_lay 57 = .ok (.aload_n 0, 1) := by decide +kernel
theorem dX11_lay_58 : decode cX11_lay 58 = .ok (.getfield 143, 3) := by decide +kernel
theorem dX11_lay_61 : decode cX11_lay 61 = .ok (.putfield 123, 3) := by decide +kernel
theorem dX11_lay_64 : decode cX11_lay 64 = .ok (.iconst 0, 1) := by decide +kernel
theorem dX11_lay_65 : decode cX11_lay 65 = .ok (.istore_n 2, 1) := by decide +kernel
theorem dX11_lay_66 : decode cX11_lay 66 = .ok (.iconst 0, 1) := by decide +kernel
theorem dX11_lay_67 : decode cX11_lay 67 = .ok (.istore_n 3, 1) := by decide +kernel
theorem dX11_lay_68 : decode cX11_lay 68 = .ok (.iload_n 3, 1) := by decide +kernel
theorem dX11_lay_69 : decode cX11_lay 69 = .ok (.aload_n 0, 1) := by decide +kernel
theorem dX11_lay_70 : decode cX11_lay 70 = .ok (.getfield 123, 3) := by decide +kernel
theorem dX11_lay_73 : decode cX11_lay 73 = .ok (.if_icmp .ge 90, 3) := by decide +kernel
theorem dX11_lay_76 : decode cX11_lay 76 = .ok (.bipush (-4), 2) := by decide +kernel
theorem dX11_lay_78 : decode cX11_lay 78 = .ok (.istore 4, 2) := by decide +kernel
theorem dX11_lay_80 : decode cX11_lay 80 = .ok (.iconst 0, 1) := by decide +kernel
theorem dX11_lay_81 : decode cX11_lay 81 = .ok (.istore 5, 2) := by decide +kernel
theorem dX11_lay_83 : decode cX11_lay 83 = .ok (.iload 5, 2) := by decide +kernel
theorem dX11_lay_85 : decode cX11_lay 85 = .ok (.aload_n 0, 1) := by decide +kernel
theorem dX11_lay_86 : decode cX11_lay 86 = .ok (.getfield 123, 3) := by decide +kernel
theorem dX11_lay_89 : decode cX11_lay 89 = .ok (.if_icmp .ge 53, 3) := by decide +kernel
theorem dX11_lay_92 : decode cX11_lay 92 = .ok (.aload_n 0, 1) := by decide +kernel
theorem dX11_lay_93 : decode cX11_lay 93 = .ok (.getfield 52, 3) := by decide +kernel
theorem dX11_lay_96 : decode cX11_lay 96 = .ok (.iload 5, 2) := by decide +kernel
theorem dX11_lay_98 : decode cX11_lay 98 = .ok (.iaload, 1) := by decide +kernel
theorem dX11_lay_99 : decode cX11_lay 99 = .ok (.iload_n 2, 1) := by decide +kernel
theorem dX11_lay_100 : decode cX11_lay 100 = .ok (.if_icmp .le 32, 3) := by decide +kernel
theorem dX11_lay_103 : decode cX11_lay 103 = .ok (.iload 4, 2) := by decide +kernel
theorem dX11_lay_105 : decode cX11_lay 105 = .ok (.bipush (-4), 2) := by decide +kernel
theorem dX11_lay_107 : decode cX11_lay 107 = .ok (.if_icmp .eq 20, 3) := by decide +kernel
theorem dX11_lay_110 : decode cX11_lay 110 = .ok (.aload_n 0, 1) := by decide +kernel
theorem dX11_lay_111 : decode cX11_lay 111 = .ok (.getfield 52, 3) := by decide +kernel
theorem dX11_lay_114 : decode cX11_lay 114 = .ok (.iload 5, 2) := by decide +kernel
theorem dX11_lay_116 : decode cX11_lay 116 = .ok (.iaload, 1) := by decide +kernel
theorem dX11_lay_117 : decode cX11_lay 117 = .ok (.aload_n 0, 1) := by decide +kernel
theorem dX11_lay_118 : decode cX11_lay 118 = .ok (.getfield 52, 3) := by decide +kernel
theorem dX11_lay_121 : decode cX11_lay 121 = .ok (.iload 4, 2) := by decide +kernel
theorem dX11_lay_123 : decode cX11_lay 123 = .ok (.iaload, 1) := by decide +kernel
theorem dX11_lay_124 : decode cX11_lay 124 = .ok (.if_icmp .ge 8, 3) := by decide +kernel
theorem dX11_lay_127 : decode cX11_lay 127 = .ok (.iload 5, 2) := by decide +kernel
theorem dX11_lay_129 : decode cX11_lay 129 = .ok (.goto 5, 3) := by decide +kernel
theorem dX11_lay_132 : decode cX11_lay 132 = .ok (.iload 4, 2) := by decide +kernel
theorem dX11_lay_134 : decode cX11_lay 134 = .ok (.istore 4, 2) := by decide +kernel
theorem dX11_lay_136 : decode cX11_lay 136 = .ok (.iinc 5 1, 3) := by decide +kernel
theorem dX11_lay_139 : decode cX11_lay 139 = .ok (.goto (-56), 3) := by decide +kernel
theorem dX11_lay_142 : decode cX11_lay 142 = .ok (.aload_n 0, 1) := by decide +kernel
theorem dX11_lay_143 : decode cX11_lay 143 = .ok (.iload 4, 2) := by decide +kernel
theorem dX11_lay_145 : decode cX11_lay 145 = .ok (.iload_n 3, 1) := by decide +kernel
theorem dX11_lay_146 : decode cX11_lay 146 = .ok (.invokevirtual 190, 3) := by decide +kernel
theorem dX11_lay_149 : decode cX11_lay 149 = .ok (.aload_n 0, 1) := by decide +kernel
theorem dX11_lay_150 : decode cX11_lay 150 = .ok (.getfield 52, 3) := by decide +kernel
theorem dX11_lay_153 : decode cX11_lay 153 = .ok (.iload 4, 2) := by decide +kernel
theorem dX11_lay_155 : decode cX11_lay 155 = .ok (.iaload, 1) := by decide +kernel
theorem dX11_lay_156 : decode cX11_lay 156 = .ok (.istore_n 2, 1) := by decide +kernel
theorem dX11_lay_157 : decode cX11_lay 157 = .ok (.iinc 3 1, 3) := by decide +kernel
theorem dX11_lay_160 : decode cX11_lay 160 = .ok (.goto (-92), 3) := by decide +kernel
theorem dX11_lay_163 : decode cX11_lay 163 = .ok (.aload_n 0, 1) := by decide +kernel
theorem dX11_lay_164 : decode cX11_lay 164 = .ok (.iconst 0, 1) := by decide +kernel
theorem dX11_lay_165 : decode cX11_lay 165 = .ok (.putfield 194, 3) := by decide +kernel
theorem dX11_lay_168 : decode cX11_lay 168 = .ok (.aload_n 0, 1) := by decide +kernel
theorem dX11_lay_169 : decode cX11_lay 169 = .ok (.iconst 0, 1) := by decide +kernel
theorem dX11_lay_170 : decode cX11_lay 170 = .ok (.putfield 197, 3) := by decide +kernel
theorem dX11_lay_173 : decode cX11_lay 173 = .ok (.aload_n 0, 1) := by decide +kernel
theorem dX11_lay_174 : decode cX11_lay 174 = .ok (.getfield 123, 3) := by decide +kernel
theorem dX11_lay_177 : decode cX11_lay 177 = .ok (.ireturn, 1) := by decide +kernel
theorem dX11_named_0 : decode cX11_named 0 = .ok (.iload_n 1, 1) := by decide +kernel
theorem dX11_named_1 : decode cX11_named 1 = .ok (.iconst 0, 1) := by decide +kernel
theorem dX11_named_2 : decode cX11_named 2 = .ok (.iconst 2, 1) := by decide +kernel
theorem dX11_named_3 : decode cX11_named 3 = .ok (.invokestatic 135, 3) := by decide +kernel
theorem dX11_named_6 : decode cX11_named 6 = .ok (.ifCond .ne 5, 3) := by decide +kernel
theorem dX11_named_9 : decode cX11_named 9 = .ok (.iconst (-1), 1) := by decide +kernel
theorem dX11_named_10 : decode cX11_named 10 = .ok (.ireturn, 1) := by decide +kernel
theorem dX11_named_11 : decode cX11_named 11 = .ok (.aload_n 0, 1) := by decide +kernel
theorem dX11_named_12 : decode cX11_named 12 = .ok (.iconst 0, 1) := by decide +kernel
theorem dX11_named_13 : decode cX11_named 13 = .ok (.putfield 126, 3) := by decide +kernel
theorem dX11_named_16 : decode cX11_named 16 = .ok (.aload_n 0, 1) := by decide +kernel
theorem dX11_named_17 : decode cX11_named 17 = .ok (.invokevirtual 163, 3) := by decide +kernel
theorem dX11_named_20 : decode cX11_named 20 = .ok (.ifCond .eq 14, 3) := by decide +kernel
theorem dX11_named_23 : decode cX11_named 23 = .ok (.aload_n 0, 1) := by decide +kernel
theorem dX11_named_24 : decode cX11_named 24 = .ok (.getfield 126, 3) := by decide +kernel
theorem dX11_named_27 : decode cX11_named 27 = .ok (.aload_n 0, 1) := by decide +kernel
theorem dX11_named_28 : decode cX11_named 28 = .ok (.getfield 114, 3) := by decide +kernel
theorem dX11_named_31 : decode cX11_named 31 = .ok (.if_icmp .eq 6, 3) := by decide +kernel
theorem dX11_named_34 : decode cX11_named 34 = .ok (.bipush (-2), 2) := by decide +kernel
theorem dX11_named_36 : decode cX11_named 36 = .ok (.ireturn, 1) := by decide +kernel
theorem dX11_named_37 : decode cX11_named 37 = .ok (.bipush (-4), 2) := by decide +kernel
theorem dX11_named_39 : decode cX11_named 39 = .ok (.istore_n 2, 1) := by decide +kernel
theorem dX11_named_40 : decode cX11_named 40 = .ok (.iconst 0, 1) := by decide +kernel
theorem dX11_named_41 : decode cX11_named 41 = .ok (.istore_n 3, 1) := by decide +kernel
theorem dX11_named_42 : decode cX11_named 42 = .ok (.iload_n 3, 1) := by decide +kernel
theorem dX11_named_43 : decode cX11_named 43 = .ok (.aload_n 0, 1) := by decide +kernel
theorem dX11_named_44 : decode cX11_named 44 = .ok (.getfield 123, 3) := by decide +kernel
theorem dX11_named_47 : decode cX11_named 47 = .ok (.if_icmp .ge 97, 3) := by decide +kernel
theorem dX11_named_50 : decode cX11_named 50 = .ok (.iload_n 1, 1) := by decide +kernel
theorem dX11_named_51 : decode cX11_named 51 = .ok (.ifCond .ne 24, 3) := by decide +kernel
theorem dX11_named_54 : decode cX11_named 54 = .ok (.aload_n 0, 1) := by decide +kernel
theorem dX11_named_55 : decode cX11_named 55 = .ok (.getfield 13, 3) := by decide +kernel
theorem dX11_named_58 : decode cX11_named 58 = .ok (.iload_n 3, 1) := by decide +kernel
theorem dX11_named_59 : decode cX11_named 59 = .ok (.iaload, 1) := by decide +kernel
theorem dX11_named_60 : decode cX11_named 60 = .ok (.aload_n 0, 1) := by decide +kernel
theorem dX11_named_61 : decode cX11_named 61 = .ok (.getfield 132, 3) := by decide +kernel
theorem dX11_named_64 : decode cX11_named 64 = .ok (.if_icmp .ne 7, 3) := by decide +kernel
theorem dX11_named_67 : decode cX11_named 67 = .ok (.iconst 1, 1) := by decide +kernel
theorem dX11_named_68 : decode cX11_named 68 = .ok (.goto 57, 3) := by decide +kernel
theorem dX11_named_71 : decode cX11_named 71 = .ok (.iconst 0, 1) := by decide +kernel
theorem dX11_named_72 : decode cX11_named 72 = .ok (.goto 53, 3) := by decide +kernel
theorem dX11_named_75 : decode cX11_named 75 = .ok (.iload_n 1, 1) := by decide +kernel
theorem dX11_named_76 : decode cX11_named 76 = .ok (.iconst 1, 1) := by decide +kernel
theorem dX11_named_77 : decode cX11_named 77 = .ok (.if_icmp .ne 24, 3) := by decide +kernel
theorem dX11_named_80 : decode cX11_named 80 = .ok (.aload_n 0, 1) := by decide +kernel
theorem dX11_named_81 : decode cX11_named 81 = .ok (.getfield 13, 3) := by decide +kernel
theorem dX11_named_84 : decode cX11_named 84 = .ok (.iload_n 3, 1) := by decide +kernel
theorem dX11_named_85 : decode cX11_named 85 = .ok (.iaload, 1) := by decide +kernel
theorem dX11_named_86 : decode cX11_named 86 = .ok (.aload_n 0, 1) := by decide +kernel
theorem dX11_named_87 : decode cX11_named 87 = .ok (.getfield 132, 3) := by decide +kernel
theorem dX11_named_90 : decode cX11_named 90 = .ok (.if_icmp .gt 7, 3) := by decide +kernel
theorem dX11_named_93 : decode cX11_named 93 = .ok (.iconst 1, 1) := by decide +kernel
theorem dX11_named_94 : decode cX11_named 94 = .ok (.goto 31, 3) := by decide +kernel
theorem dX11_named_97 : decode cX11_named 97 = .ok (.iconst 0, 1) := by decide +kernel
theorem dX11_named_98 : decode cX11_named 98 = .ok (.goto 27, 3) := by decide +kernel
theorem dX11_named_101 : decode cX11_named 101 = .ok (.aload_n 0, 1) := by decide +kernel
theorem dX11_named_102 : decode cX11_named 102 = .ok (.getfield 13, 3) := by decide +kernel
theorem dX11_named_105 : decode cX11_named 105 = .ok (.iload_n 3, 1) := by decide +kernel
theorem dX11_named_106 : decode cX11_named 106 = .ok (.iaload, 1) := by decide +kernel
theorem dX11_named_107 : decode cX11_named 107 = .ok (.aload_n 0, 1) := by decide +kernel
theorem dX11_named_108 : decode cX11_named 108 = .ok (.getfield 132, 3) := by decide +kernel
theorem dX11_named_111 : decode cX11_named 111 = .ok (.if_icmp .lt 13, 3) := by decide +kernel
theorem dX11_named_114 : decode cX11_named 114 = .ok (.iload_n 2, 1) := by decide +kernel
theorem dX11_named_115 : decode cX11_named 115 = .ok (.bipush (-4), 2) := by decide +kernel
theorem dX11_named_117 : decode cX11_named 117 = .ok (.if_icmp .ne 7, 3) := by decide +kernel
theorem dX11_named_120 : decode cX11_named 120 = .ok (.iconst 1, 1) := by decide +kernel
theorem dX11_named_121 : decode cX11_named 121 = .ok (.goto 4, 3) := by decide +kernel
theorem dX11_named_124 : decode cX11_named 124 = .ok (.iconst 0, 1) := by decide +kernel
theorem dX11_named_125 : decode cX11_named 125 = .ok (.istore 4, 2) := by decide +kernel
theorem dX11_named_127 : decode cX11_named 127 = .ok (.iload 4, 2) := by decide +kernel
theorem dX11_named_129 : decode cX11_named 129 = .ok (.ifCond .eq 7, 3) := by decide +kernel
theorem dX11_named_132 : decode cX11_named 132 = .ok (.iload_n 3, 1) := by decide +kernel
theorem dX11_named_133 : decode cX11_named 133 = .ok (.goto 4, 3) := by decide +kernel
theorem dX11_named_136 : decode cX11_named 136 = .ok (.iload_n 2, 1) := by decide +kernel
theorem dX11_named_137 : decode cX11_named 137 = .ok (.istore_n 2, 1) := by decide +kernel
theorem dX11_named_138 : decode cX11_named 138 = .ok (.iinc 3 1, 3) := by decide +kernel
theorem dX11_named_141 : decode cX11_named 141 = .ok (.goto (-99), 3) := by decide +kernel
theorem dX11_named_144 : decode cX11_named 144 = .ok (.iload_n 2, 1) := by decide +kernel
theorem dX11_named_145 : decode cX11_named 145 = .ok (.ireturn, 1) := by decide +kernel
theorem dX11_looks_0 : decode cX11_looks 0 = .ok (.aload_n 0, 1) := by decide +kernel
theorem dX11_looks_1 : decode cX11_looks 1 = .ok (.dup, 1) := by decide +kernel
theorem dX11_looks_2 : decode cX11_looks 2 = .ok (.getfield 200, 3) := by decide +kernel
theorem dX11_looks_5 : decode cX11_looks 5 = .ok (.iconst 1, 1) := by decide +kernel
theorem dX11_looks_6 : decode cX11_looks 6 = .ok (.iadd, 1) := by decide +kernel
theorem dX11_looks_7 : decode cX11_looks 7 = .ok (.putfield 200, 3) := by decide +kernel
theorem dX11_looks_10 : decode cX11_looks 10 = .ok (.aload_n 0, 1) := by decide +kernel
theorem dX11_looks_11 : decode cX11_looks 11 = .ok (.getfield 200, 3) := by decide +kernel
theorem dX11_looks_14 : decode cX11_looks 14 = .ok (.bipush 11, 2) := by decide +kernel
theorem dX11_looks_16 : decode cX11_looks 16 = .ok (.if_icmp .ge 7, 3) := by decide +kernel
theorem dX11_looks_19 : decode cX11_looks 19 = .ok (.iconst 1, 1) := by decide +kernel
theorem dX11_looks_20 : decode cX11_looks 20 = .ok (.goto 4, 3) := by decide +kernel
theorem dX11_looks_23 : decode cX11_looks 23 = .ok (.iconst 0, 1) := by decide +kernel
theorem dX11_looks_24 : decode cX11_looks 24 = .ok (.ireturn, 1) := by decide +kernel
theorem dX11_isEmpty_0 : decode cX11_isEmpty 0 = .ok (.aload_n 0, 1) := by decide +kernel
theorem dX11_isEmpty_1 : decode cX11_isEmpty 1 = .ok (.dup, 1) := by decide +kernel
theorem dX11_isEmpty_2 : decode cX11_isEmpty 2 = .ok (.getfield 203, 3) := by decide +kernel
theorem dX11_isEmpty_5 : decode cX11_isEmpty 5 = .ok (.iconst 1, 1) := by decide +kernel
theorem dX11_isEmpty_6 : decode cX11_isEmpty 6 = .ok (.iadd, 1) := by decide +kernel
theorem dX11_isEmpty_7 : decode cX11_isEmpty 7 = .ok (.putfield 203, 3) := by decide +kernel
theorem dX11_isEmpty_10 : decode cX11_isEmpty 10 = .ok (.aload_n 0, 1) := by decide +kernel
theorem dX11_isEmpty_11 : decode cX11_isEmpty 11 = .ok (.getfield 203, 3) := by decide +kernel
theorem dX11_isEmpty_14 : decode cX11_isEmpty 14 = .ok (.iconst 3, 1) := by decide +kernel
theorem dX11_isEmpty_15 : decode cX11_isEmpty 15 = .ok (.if_icmp .ge 7, 3) := by decide +kernel
theorem dX11_isEmpty_18 : decode cX11_isEmpty 18 = .ok (.iconst 1, 1) := by decide +kernel
theorem dX11_isEmpty_19 : decode cX11_isEmpty 19 = .ok (.goto 4, 3) := by decide +kernel
theorem dX11_isEmpty_22 : decode cX11_isEmpty 22 = .ok (.iconst 0, 1) := by decide +kernel
theorem dX11_isEmpty_23 : decode cX11_isEmpty 23 = .ok (.ireturn, 1) := by decide +kernel
theorem dX11_hasHost_0 : decode cX11_hasHost 0 = .ok (.iconst 0, 1) := by decide +kernel
theorem dX11_hasHost_1 : decode cX11_hasHost 1 = .ok (.istore_n 3, 1) := by decide +kernel
theorem dX11_hasHost_2 : decode cX11_hasHost 2 = .ok (.iconst 0, 1) := by decide +kernel
theorem dX11_hasHost_3 : decode cX11_hasHost 3 = .ok (.istore 4, 2) := by decide +kernel
theorem dX11_hasHost_5 : decode cX11_hasHost 5 = .ok (.iload_n 1, 1) := by decide +kernel
theorem dX11_hasHost_6 : decode cX11_hasHost 6 = .ok (.bipush (-4), 2) := by decide +kernel
theorem dX11_hasHost_8 : decode cX11_hasHost 8 = .ok (.if_icmp .eq 55, 3) := by decide +kernel
theorem dX11_hasHost_11 : decode cX11_hasHost 11 = .ok (.iload 4, 2) := by decide +kernel
theorem dX11_hasHost_13 : decode cX11_hasHost 13 = .ok (.aload_n 0, 1) := by decide +kernel
theorem dX11_hasHost_14 : decode cX11_hasHost 14 = .ok (.getfield 46, 3) := by decide +kernel
theorem dX11_hasHost_17 : decode cX11_hasHost 17 = .ok (.bipush 21, 2) := by decide +kernel
theorem dX11_hasHost_19 : decode cX11_hasHost 19 = .ok (.iload_n 1, 1) := by decide +kernel
theorem dX11_hasHost_20 : decode cX11_hasHost 20 = .ok (.imul, 1) := by decide +kernel
theorem dX11_hasHost_21 : decode cX11_hasHost 21 = .ok (.bipush 16, 2) := by decide +kernel
theorem dX11_hasHost_23 : decode cX11_hasHost 23 = .ok (.iadd, 1) := by decide +kernel
theorem dX11_hasHost_24 : decode cX11_hasHost 24 = .ok (.iaload, 1) := by decide +kernel
theorem dX11_hasHost_25 : decode cX11_hasHost 25 = .ok (.if_icmp .ge 38, 3) := by decide +kernel
theorem dX11_hasHost_28 : decode cX11_hasHost 28 = .ok (.iload_n 3, 1) := by decide +kernel
theorem dX11_hasHost_29 : decode cX11_hasHost 29 = .ok (.ifCond .ne 22, 3) := by decide +kernel
theorem dX11_hasHost_32 : decode cX11_hasHost 32 = .ok (.aload_n 0, 1) := by decide +kernel
theorem dX11_hasHost_33 : decode cX11_hasHost 33 = .ok (.getfield 46, 3) := by decide +kernel
theorem dX11_hasHost_36 : decode cX11_hasHost 36 = .ok (.bipush 21, 2) := by decide +kernel
theorem dX11_hasHost_38 : decode cX11_hasHost 38 = .ok (.iload_n 1, 1) := by decide +kernel
theorem dX11_hasHost_39 : decode cX11_hasHost 39 = .ok (.imul, 1) := by decide +kernel
theorem dX11_hasHost_40 : decode cX11_hasHost 40 = .ok (.bipush 17, 2) := by decide +kernel
theorem dX11_hasHost_42 : decode cX11_hasHost 42 = .ok (.iadd, 1) := by decide +kernel
theorem dX11_hasHost_43 : decode cX11_hasHost 43 = .ok (.iload 4, 2) := by decide +kernel
theorem dX11_hasHost_45 : decode cX11_hasHost 45 = .ok (.iadd, 1) := by decide +kernel
theorem dX11_hasHost_46 : decode cX11_hasHost 46 = .ok (.iaload, 1) := by decide +kernel
theorem dX11_hasHost_47 : decode cX11_hasHost 47 = .ok (.iload_n 2, 1) := by decide +kernel
theorem dX11_hasHost_48 : decode cX11_hasHost 48 = .ok (.if_icmp .ne 7, 3) := by decide +kernel
theorem dX11_hasHost_51 : decode cX11_hasHost 51 = .ok (.iconst 1, 1) := by decide +kernel
theorem dX11_hasHost_52 : decode cX11_hasHost 52 = .ok (.goto 4, 3) := by decide +kernel
theorem dX11_hasHost_55 : decode cX11_hasHost 55 = .ok (.iconst 0, 1) := by decide +kernel
theorem dX11_hasHost_56 : decode cX11_hasHost 56 = .ok (.istore_n 3, 1) := by decide +kernel
theorem dX11_hasHost_57 : decode cX11_hasHost 57 = .ok (.iinc 4 1, 3) := by decide +kernel
theorem dX11_hasHost_60 : decode cX11_hasHost 60 = .ok (.goto (-55), 3) := by decide +kernel
theorem dX11_hasHost_63 : decode cX11_hasHost 63 = .ok (.iload_n 3, 1) := by decide +kernel
theorem dX11_hasHost_64 : decode cX11_hasHost 64 = .ok (.ireturn, 1) := by decide +kernel
theorem dX11_hostMany_0 : decode cX11_hostMany 0 = .ok (.iload_n 1, 1) := by decide +kernel
theorem dX11_hostMany_1 : decode cX11_hostMany 1 = .ok (.bipush (-4), 2) := by decide +kernel
theorem dX11_hostMany_3 : decode cX11_hostMany 3 = .ok (.if_icmp .ne 7, 3) := by decide +kernel
theorem dX11_hostMany_6 : decode cX11_hostMany 6 = .ok (.iconst 0, 1) := by decide +kernel
theorem dX11_hostMany_7 : decode cX11_hostMany 7 = .ok (.goto 15, 3) := by decide +kernel
theorem dX11_hostMany_10 : decode cX11_hostMany 10 = .ok (.aload_n 0, 1) := by decide +kernel
theorem dX11_hostMany_11 : decode cX11_hostMany 11 = .ok (.getfield 46, 3) := by decide +kernel
theorem dX11_hostMany_14 : decode cX11_hostMany 14 = .ok (.bipush 21, 2) := by decide +kernel
theorem dX11_hostMany_16 : decode cX11_hostMany 16 = .ok (.iload_n 1, 1) := by decide +kernel
theorem dX11_hostMany_17 : decode cX11_hostMany 17 = .ok (.imul, 1) := by decide +kernel
theorem dX11_hostMany_18 : decode cX11_hostMany 18 = .ok (.bipush 16, 2) := by decide +kernel
theorem dX11_hostMany_20 : decode cX11_hostMany 20 = .ok (.iadd, 1) := by decide +kernel
theorem dX11_hostMany_21 : decode cX11_hostMany 21 = .ok (.iaload, 1) := by decide +kernel
theorem dX11_hostMany_22 : decode cX11_hostMany 22 = .ok (.ireturn, 1) := by decide +kernel
theorem dX11_spells_0 : decode cX11_spells 0 = .ok (.aload_n 0, 1) := by decide +kernel
theorem dX11_spells_1 : decode cX11_spells 1 = .ok (.iload_n 1, 1) := by decide +kernel
theorem dX11_spells_2 : decode cX11_spells 2 = .ok (.invokestatic 206, 3) := by decide +kernel
theorem dX11_spells_5 : decode cX11_spells 5 = .ok (.putfield 209, 3) := by decide +kernel
theorem dX11_spells_8 : decode cX11_spells 8 = .ok (.iconst 0, 1) := by decide +kernel
theorem dX11_spells_9 : decode cX11_spells 9 = .ok (.istore_n 2, 1) := by decide +kernel
theorem dX11_spells_10 : decode cX11_spells 10 = .ok (.iload_n 2, 1) := by decide +kernel
theorem dX11_spells_11 : decode cX11_spells 11 = .ok (.aload_n 0, 1) := by decide +kernel
theorem dX11_spells_12 : decode cX11_spells 12 = .ok (.getfield 209, 3) := by decide +kernel
theorem dX11_spells_15 : decode cX11_spells 15 = .ok (.if_icmp .ge 27, 3) := by decide +kernel
theorem dX11_spells_18 : decode cX11_spells 18 = .ok (.aload_n 0, 1) := by decide +kernel
theorem dX11_spells_19 : decode cX11_spells 19 = .ok (.getfield 103, 3) := by decide +kernel
theorem dX11_spells_22 : decode cX11_spells 22 = .ok (.iload_n 2, 1) := by decide +kernel
theorem dX11_spells_23 : decode cX11_spells 23 = .ok (.iload_n 1, 1) := by decide +kernel
theorem dX11_spells_24 : decode cX11_spells 24 = .ok (.aload_n 0, 1) := by decide +kernel
theorem dX11_spells_25 : decode cX11_spells 25 = .ok (.getfield 209, 3) := by decide +kernel
theorem dX11_spells_28 : decode cX11_spells 28 = .ok (.iconst 1, 1) := by decide +kernel
theorem dX11_spells_29 : decode cX11_spells 29 = .ok (.isub, 1) := by decide +kernel
theorem dX11_spells_30 : decode cX11_spells 30 = .ok (.iload_n 2, 1) := by decide +kernel
theorem dX11_spells_31 : decode cX11_spells 31 = .ok (.isub, 1) := by decide +kernel
theorem dX11_spells_32 : decode cX11_spells 32 = .ok (.invokestatic 212, 3) := by decide +kernel
theorem dX11_spells_35 : decode cX11_spells 35 = .ok (.iastore, 1) := by decide +kernel
theorem dX11_spells_36 : decode cX11_spells 36 = .ok (.iinc 2 1, 3) := by decide +kernel
theorem dX11_spells_39 : decode cX11_spells 39 = .ok (.goto (-29), 3) := by decide +kernel
theorem dX11_spells_42 : decode cX11_spells 42 = .ok (.return_, 1) := by decide +kernel
theorem dX11_spellsPart_0 : decode cX11_spellsPart 0 = .ok (.iload_n 1, 1) := by decide +kernel
theorem dX11_spellsPart_1 : decode cX11_spellsPart 1 = .ok (.iconst 4, 1) := by decide +kernel
theorem dX11_spellsPart_2 : decode cX11_spellsPart 2 = .ok (.irem, 1) := by decide +kernel
theorem dX11_spellsPart_3 : decode cX11_spellsPart 3 = .ok (.istore_n 2, 1) := by decide +kernel
theorem dX11_spellsPart_4 : decode cX11_spellsPart 4 = .ok (.iload_n 1, 1) := by decide +kernel
theorem dX11_spellsPart_5 : decode cX11_spellsPart 5 = .ok (.bipush 16, 2) := by decide +kernel
theorem dX11_spellsPart_7 : decode cX11_spellsPart 7 = .ok (.if_icmp .ge 18, 3) := by decide +kernel
theorem dX11_spellsPart_10 : decode cX11_spellsPart 10 = .ok (.aload_n 0, 1) := by decide +kernel
theorem dX11_spellsPart_11 : decode cX11_spellsPart 11 = .ok (.iconst 1, 1) := by decide +kernel
theorem dX11_spellsPart_12 : decode cX11_spellsPart 12 = .ok (.putfield 209, 3) := by decide +kernel
theorem dX11_spellsPart_15 : decode cX11_spellsPart 15 = .ok (.aload_n 0, 1) := by decide +kernel
theorem dX11_spellsPart_16 : decode cX11_spellsPart 16 = .ok (.getfield 103, 3) := by decide +kernel
theorem dX11_spellsPart_19 : decode cX11_spellsPart 19 = .ok (.iconst 0, 1) := by decide +kernel
theorem dX11_spellsPart_20 : decode cX11_spellsPart 20 = .ok (.iload_n 1, 1) := by decide +kernel
theorem dX11_spellsPart_21 : decode cX11_spellsPart 21 = .ok (.iastore, 1) := by decide +kernel
theorem dX11_spellsPart_22 : decode cX11_spellsPart 22 = .ok (.goto 102, 3) := by decide +kernel
theorem dX11_spellsPart_25 : decode cX11_spellsPart 25 = .ok (.iload_n 2, 1) := by decide +kernel
theorem dX11_spellsPart_26 : decode cX11_spellsPart 26 = .ok (.iconst 2, 1) := by decide +kernel
theorem dX11_spellsPart_27 : decode cX11_spellsPart 27 = .ok (.if_icmp .ge 37, 3) := by decide +kernel
theorem dX11_spellsPart_30 : decode cX11_spellsPart 30 = .ok (.aload_n 0, 1) := by decide +kernel
theorem dX11_spellsPart_31 : decode cX11_spellsPart 31 = .ok (.aload_n 0, 1) := by decide +kernel
theorem dX11_spellsPart_32 : decode cX11_spellsPart 32 = .ok (.getfield 13, 3) := by decide +kernel
theorem dX11_spellsPart_35 : decode cX11_spellsPart 35 = .ok (.iload_n 2, 1) := by decide +kernel
theorem dX11_spellsPart_36 : decode cX11_spellsPart 36 = .ok (.ifCond .ne 17, 3) := by decide +kernel
theorem dX11_spellsPart_39 : decode cX11_spellsPart 39 = .ok (.aload_n 0, 1) := by decide +kernel
theorem dX11_spellsPart_40 : decode cX11_spellsPart 40 = .ok (.getfield 97, 3) := by decide +kernel
theorem dX11_spellsPart_43 : decode cX11_spellsPart 43 = .ok (.aload_n 0, 1) := by decide +kernel
theorem dX11_spellsPart_44 : decode cX11_spellsPart 44 = .ok (.getfield 215, 3) := by decide +kernel
theorem dX11_spellsPart_47 : decode cX11_spellsPart 47 = .ok (.iconst 1, 1) := by decide +kernel
theorem dX11_spellsPart_48 : decode cX11_spellsPart 48 = .ok (.isub, 1) := by decide +kernel
theorem dX11_spellsPart_49 : decode cX11_spellsPart 49 = .ok (.iaload, 1) := by decide +kernel
theorem dX11_spellsPart_50 : decode cX11_spellsPart 50 = .ok (.goto 7, 3) := by decide +kernel
theorem dX11_spellsPart_53 : decode cX11_spellsPart 53 = .ok (.aload_n 0, 1) := by decide +kernel
theorem dX11_spellsPart_54 : decode cX11_spellsPart 54 = .ok (.getfield 218, 3) := by decide +kernel
theorem dX11_spellsPart_57 : decode cX11_spellsPart 57 = .ok (.iaload, 1) := by decide +kernel
theorem dX11_spellsPart_58 : decode cX11_spellsPart 58 = .ok (.invokevirtual 221, 3) := by decide +kernel
theorem dX11_spellsPart_61 : decode cX11_spellsPart 61 = .ok (.goto 63, 3) := by decide +kernel
theorem dX11_spellsPart_64 : decode cX11_spellsPart 64 = .ok (.iload_n 2, 1) := by decide +kernel
theorem dX11_spellsPart_65 : decode cX11_spellsPart 65 = .ok (.iconst 2, 1) := by decide +kernel
theorem dX11_spellsPart_66 : decode cX11_spellsPart 66 = .ok (.if_icmp .ne 43, 3) := by decide +kernel
theorem dX11_spellsPart_69 : decode cX11_spellsPart 69 = .ok (.aload_n 0, 1) := by decide +kernel
theorem dX11_spellsPart_70 : decode cX11_spellsPart 70 = .ok (.iconst 4, 1) := by decide +kernel
theorem dX11_spellsPart_71 : decode cX11_spellsPart 71 = .ok (.putfield 209, 3) := by decide +kernel
theorem dX11_spellsPart_74 : decode cX11_spellsPart 74 = .ok (.iconst 0, 1) := by decide +kernel
theorem dX11_spellsPart_75 : decode cX11_spellsPart 75 = .ok (.istore_n 3, 1) := by decide +kernel
theorem dX11_spellsPart_76 : decode cX11_spellsPart 76 = .ok (.iload_n 3, 1) := by decide +kernel
theorem dX11_spellsPart_77 : decode cX11_spellsPart 77 = .ok (.iconst 4, 1) := by decide +kernel
theorem dX11_spellsPart_78 : decode cX11_spellsPart 78 = .ok (.if_icmp .ge 28, 3) := by decide +kernel
theorem dX11_spellsPart_81 : decode cX11_spellsPart 81 = .ok (.aload_n 0, 1) := by decide +kernel
theorem dX11_spellsPart_82 : decode cX11_spellsPart 82 = .ok (.getfield 103, 3) := by decide +kernel
theorem dX11_spellsPart_85 : decode cX11_spellsPart 85 = .ok (.iload_n 3, 1) := by decide +kernel
theorem dX11_spellsPart_86 : decode cX11_spellsPart 86 = .ok (.aload_n 0, 1) := by decide +kernel
theorem dX11_spellsPart_87 : decode cX11_spellsPart 87 = .ok (.getfield 225, 3) := by decide +kernel
theorem dX11_spellsPart_90 : decode cX11_spellsPart 90 = .ok (.bipush 6, 2) := by decide +kernel
theorem dX11_spellsPart_92 : decode cX11_spellsPart 92 = .ok (.iconst 2, 1) := by decide +kernel
theorem dX11_spellsPart_93 : decode cX11_spellsPart 93 = .ok (.iload_n 3, 1) := by decide +kernel
theorem dX11_spellsPart_94 : decode cX11_spellsPart 94 = .ok (.imul, 1) := by decide +kernel
theorem dX11_spellsPart_95 : decode cX11_spellsPart 95 = .ok (.isub, 1) := by decide +kernel
theorem dX11_spellsPart_96 : decode cX11_spellsPart 96 = .ok (.ishr, 1) := by decide +kernel
theorem dX11_spellsPart_97 : decode cX11_spellsPart 97 = .ok (.iconst 3, 1) := by decide +kernel
theorem dX11_spellsPart_98 : decode cX11_spellsPart 98 = .ok (.iand, 1) := by decide +kernel
theorem dX11_spellsPart_99 : decode cX11_spellsPart 99 = .ok (.iastore, 1) := by decide +kernel
theorem dX11_spellsPart_100 : decode cX11_spellsPart 100 = .ok (.iinc 3 1, 3) := by decide +kernel
theorem dX11_spellsPart_103 : decode cX11_spellsPart 103 = .ok (.goto (-27), 3) := by decide +kernel
theorem dX11_spellsPart_106 : decode cX11_spellsPart 106 = .ok (.goto 18, 3) := by decide +kernel
theorem dX11_spellsPart_109 : decode cX11_spellsPart 109 = .ok (.aload_n 0, 1) := by decide +kernel
theorem dX11_spellsPart_110 : decode cX11_spellsPart 110 = .ok (.iconst 1, 1) := by decide +kernel
theorem dX11_spellsPart_111 : decode cX11_spellsPart 111 = .ok (.putfield 209, 3) := by decide +kernel
theorem dX11_spellsPart_114 : decode cX11_spellsPart 114 = .ok (.aload_n 0, 1) := by decide +kernel
theorem dX11_spellsPart_115 : decode cX11_spellsPart 115 = .ok (.getfield 103, 3) := by decide +kernel
theorem dX11_spellsPart_118 : decode cX11_spellsPart 118 = .ok (.iconst 0, 1) := by decide +kernel
theorem dX11_spellsPart_119 : decode cX11_spellsPart 119 = .ok (.aload_n 0, 1) := by decide +kernel
theorem dX11_spellsPart_120 : decode cX11_spellsPart 120 = .ok (.getfield 228, 3) := by decide +kernel
theorem dX11_spellsPart_123 : decode cX11_spellsPart 123 = .ok (.iastore, 1) := by decide +kernel
theorem dX11_spellsPart_124 : decode cX11_spellsPart 124 = .ok (.return_, 1) := by decide +kernel
theorem dX11_macroName_0 : decode cX11_macroName 0 = .ok (.iconst 0, 1) := by decide +kernel
theorem dX11_macroName_1 : decode cX11_macroName 1 = .ok (.istore_n 2, 1) := by decide +kernel
theorem dX11_macroName_2 : decode cX11_macroName 2 = .ok (.iconst 0, 1) := by decide +kernel
theorem dX11_macroName_3 : decode cX11_macroName 3 = .ok (.istore_n 3, 1) := by decide +kernel
theorem dX11_macroName_4 : decode cX11_macroName 4 = .ok (.iload_n 3, 1) := by decide +kernel
theorem dX11_macroName_5 : decode cX11_macroName 5 = .ok (.aload_n 0, 1) := by decide +kernel
theorem dX11_macroName_6 : decode cX11_macroName 6 = .ok (.getfield 40, 3) := by decide +kernel
theorem dX11_macroName_9 : decode cX11_macroName 9 = .ok (.iload_n 1, 1) := by decide +kernel
theorem dX11_macroName_10 : decode cX11_macroName 10 = .ok (.iaload, 1) := by decide +kernel
theorem dX11_macroName_11 : decode cX11_macroName 11 = .ok (.if_icmp .ge 148, 3) := by decide +kernel
theorem dX11_macroName_14 : decode cX11_macroName 14 = .ok (.aload_n 0, 1) := by decide +kernel
theorem dX11_macroName_15 : decode cX11_macroName 15 = .ok (.getfield 43, 3) := by decide +kernel
theorem dX11_macroName_18 : decode cX11_macroName 18 = .ok (.bipush 8, 2) := by decide +kernel
theorem dX11_macroName_20 : decode cX11_macroName 20 = .ok (.iload_n 1, 1) := by decide +kernel
theorem dX11_macroName_21 : decode cX11_macroName 21 = .ok (.imul, 1) := by decide +kernel
theorem dX11_macroName_22 : decode cX11_macroName 22 = .ok (.iload_n 3, 1) := by decide +kernel
theorem dX11_macroName_23 : decode cX11_macroName 23 = .ok (.iadd, 1) := by decide +kernel
theorem dX11_macroName_24 : decode cX11_macroName 24 = .ok (.iaload, 1) := by decide +kernel
theorem dX11_macroName_25 : decode cX11_macroName 25 = .ok (.istore 4, 2) := by decide +kernel
theorem dX11_macroName_27 : decode cX11_macroName 27 = .ok (.aload_n 0, 1) := by decide +kernel
theorem dX11_macroName_28 : decode cX11_macroName 28 = .ok (.iload 4, 2) := by decide +kernel
theorem dX11_macroName_30 : decode cX11_macroName 30 = .ok (.invokevirtual 231, 3) := by decide +kernel
theorem dX11_macroName_33 : decode cX11_macroName 33 = .ok (.iload 4, 2) := by decide +kernel
theorem dX11_macroName_35 : decode cX11_macroName 35 = .ok (.bipush 16, 2) := by decide +kernel
theorem dX11_macroName_37 : decode cX11_macroName 37 = .ok (.if_icmp .lt 17, 3) := by decide +kernel
theorem dX11_macroName_40 : decode cX11_macroName 40 = .ok (.iload 4, 2) := by decide +kernel
theorem dX11_macroName_42 : decode cX11_macroName 42 = .ok (.iconst 4, 1) := by decide +kernel
theorem dX11_macroName_43 : decode cX11_macroName 43 = .ok (.idiv, 1) := by decide +kernel
theorem dX11_macroName_44 : decode cX11_macroName 44 = .ok (.iconst 1, 1) := by decide +kernel
theorem dX11_macroName_45 : decode cX11_macroName 45 = .ok (.iand, 1) := by decide +kernel
theorem dX11_macroName_46 : decode cX11_macroName 46 = .ok (.iconst 1, 1) := by decide +kernel
theorem dX11_macroName_47 : decode cX11_macroName 47 = .ok (.if_icmp .ne 7, 3) := by decide +kernel
theorem dX11_macroName_50 : decode cX11_macroName 50 = .ok (.iconst 1, 1) := by decide +kernel
theorem dX11_macroName_51 : decode cX11_macroName 51 = .ok (.goto 4, 3) := by decide +kernel
theorem dX11_macroName_54 : decode cX11_macroName 54 = .ok (.iconst 0, 1) := by decide +kernel
theorem dX11_macroName_55 : decode cX11_macroName 55 = .ok (.istore 5, 2) := by decide +kernel
theorem dX11_macroName_57 : decode cX11_macroName 57 = .ok (.iload 4, 2) := by decide +kernel
theorem dX11_macroName_59 : decode cX11_macroName 59 = .ok (.bipush 16, 2) := by decide +kernel
theorem dX11_macroName_61 : decode cX11_macroName 61 = .ok (.if_icmp .lt 14, 3) := by decide +kernel
theorem dX11_macroName_64 : decode cX11_macroName 64 = .ok (.iload 4, 2) := by decide +kernel
theorem dX11_macroName_66 : decode cX11_macroName 66 = .ok (.bipush 16, 2) := by decide +kernel
theorem dX11_macroName_68 : decode cX11_macroName 68 = .ok (.isub, 1) := by decide +kernel
theorem dX11_macroName_69 : decode cX11_macroName 69 = .ok (.bipush 8, 2) := by decide +kernel
theorem dX11_macroName_71 : decode cX11_macroName 71 = .ok (.idiv, 1) := by decide +kernel
theorem dX11_macroName_72 : decode cX11_macroName 72 = .ok (.goto 4, 3) := by decide +kernel
theorem dX11_macroName_75 : decode cX11_macroName 75 = .ok (.iconst 0, 1) := by decide +kernel
theorem dX11_macroName_76 : decode cX11_macroName 76 = .ok (.istore 6, 2) := by decide +kernel
theorem dX11_macroName_78 : decode cX11_macroName 78 = .ok (.iload 6, 2) := by decide +kernel
theorem dX11_macroName_80 : decode cX11_macroName 80 = .ok (.ifCond .le 22, 3) := by decide +kernel
theorem dX11_macroName_83 : decode cX11_macroName 83 = .ok (.iload 6, 2) := by decide +kernel
theorem dX11_macroName_85 : decode cX11_macroName 85 = .ok (.aload_n 0, 1) := by decide +kernel
theorem dX11_macroName_86 : decode cX11_macroName 86 = .ok (.getfield 209, 3) := by decide +kernel
theorem dX11_macroName_89 : decode cX11_macroName 89 = .ok (.if_icmp .ge 13, 3) := by decide +kernel
theorem dX11_macroName_92 : decode cX11_macroName 92 = .ok (.aload_n 0, 1) := by decide +kernel
theorem dX11_macroName_93 : decode cX11_macroName 93 = .ok (.getfield 209, 3) := by decide +kernel
theorem dX11_macroName_96 : decode cX11_macroName 96 = .ok (.iload 6, 2) := by decide +kernel
theorem dX11_macroName_98 : decode cX11_macroName 98 = .ok (.isub, 1) := by decide +kernel
theorem dX11_macroName_99 : decode cX11_macroName 99 = .ok (.goto 4, 3) := by decide +kernel
theorem dX11_macroName_102 : decode cX11_macroName 102 = .ok (.iconst 0, 1) := by decide +kernel
theorem dX11_macroName_103 : decode cX11_macroName 103 = .ok (.istore 7, 2) := by decide +kernel
theorem dX11_macroName_105 : decode cX11_macroName 105 = .ok (.iload 7, 2) := by decide +kernel
theorem dX11_macroName_107 : decode cX11_macroName 107 = .ok (.istore 8, 2) := by decide +kernel
theorem dX11_macroName_109 : decode cX11_macroName 109 = .ok (.iload 8, 2) := by decide +kernel
theorem dX11_macroName_111 : decode cX11_macroName 111 = .ok (.aload_n 0, 1) := by decide +kernel
theorem dX11_macroName_112 : decode cX11_macroName 112 = .ok (.getfield 209, 3) := by decide +kernel
theorem dX11_macroName_115 : decode cX11_macroName 115 = .ok (.if_icmp .ge 38, 3) := by decide +kernel
theorem dX11_macroName_118 : decode cX11_macroName 118 = .ok (.iload_n 2, 1) := by decide +kernel
theorem dX11_macroName_119 : decode cX11_macroName 119 = .ok (.aload_n 0, 1) := by decide +kernel
theorem dX11_macroName_120 : decode cX11_macroName 120 = .ok (.getfield 103, 3) := by decide +kernel
theorem dX11_macroName_123 : decode cX11_macroName 123 = .ok (.iload 5, 2) := by decide +kernel
theorem dX11_macroName_125 : decode cX11_macroName 125 = .ok (.ifCond .eq 15, 3) := by decide +kernel
theorem dX11_macroName_128 : decode cX11_macroName 128 = .ok (.aload_n 0, 1) := by decide +kernel
theorem dX11_macroName_129 : decode cX11_macroName 129 = .ok (.getfield 209, 3) := by decide +kernel
theorem dX11_macroName_132 : decode cX11_macroName 132 = .ok (.iconst 1, 1) := by decide +kernel
theorem dX11_macroName_133 : decode cX11_macroName 133 = .ok (.isub, 1) := by decide +kernel
theorem dX11_macroName_134 : decode cX11_macroName 134 = .ok (.iload 8, 2) := by decide +kernel
theorem dX11_macroName_136 : decode cX11_macroName 136 = .ok (.isub, 1) := by decide +kernel
theorem dX11_macroName_137 : decode cX11_macroName 137 = .ok (.goto 5, 3) := by decide +kernel
theorem dX11_macroName_140 : decode cX11_macroName 140 = .ok (.iload 8, 2) := by decide +kernel
theorem dX11_macroName_142 : decode cX11_macroName 142 = .ok (.iaload, 1) := by decide +kernel
theorem dX11_macroName_143 : decode cX11_macroName 143 = .ok (.invokestatic 139, 3) := by decide +kernel
theorem dX11_macroName_146 : decode cX11_macroName 146 = .ok (.istore_n 2, 1) := by decide +kernel
theorem dX11_macroName_147 : decode cX11_macroName 147 = .ok (.iinc 8 1, 3) := by decide +kernel
theorem dX11_macroName_150 : decode cX11_macroName 150 = .ok (.goto (-41), 3) := by decide +kernel
theorem dX11_macroName_153 : decode cX11_macroName 153 = .ok (.iinc 3 1, 3) := by decide +kernel
theorem dX11_macroName_156 : decode cX11_macroName 156 = .ok (.goto (-152), 3) := by decide +kernel
theorem dX11_macroName_159 : decode cX11_macroName 159 = .ok (.iload_n 2, 1) := by decide +kernel
theorem dX11_macroName_160 : decode cX11_macroName 160 = .ok (.ireturn, 1) := by decide +kernel
theorem dX11_fits_0 : decode cX11_fits 0 = .ok (.aload_n 0, 1) := by decide +kernel
theorem dX11_fits_1 : decode cX11_fits 1 = .ok (.getfield 28, 3) := by decide +kernel
theorem dX11_fits_4 : decode cX11_fits 4 = .ok (.iload_n 1, 1) := by decide +kernel
theorem dX11_fits_5 : decode cX11_fits 5 = .ok (.iaload, 1) := by decide +kernel
theorem dX11_fits_6 : decode cX11_fits 6 = .ok (.ifCond .ne 5, 3) := by decide +kernel
theorem dX11_fits_9 : decode cX11_fits 9 = .ok (.iconst 1, 1) := by decide +kernel
theorem dX11_fits_10 : decode cX11_fits 10 = .ok (.ireturn, 1) := by decide +kernel
theorem dX11_fits_11 : decode cX11_fits 11 = .ok (.aload_n 0, 1) := by decide +kernel
theorem dX11_fits_12 : decode cX11_fits 12 = .ok (.getfield 28, 3) := by decide +kernel
theorem dX11_fits_15 : decode cX11_fits 15 = .ok (.iload_n 1, 1) := by decide +kernel
theorem dX11_fits_16 : decode cX11_fits 16 = .ok (.iaload, 1) := by decide +kernel
theorem dX11_fits_17 : decode cX11_fits 17 = .ok (.iconst 1, 1) := by decide +kernel
theorem dX11_fits_18 : decode cX11_fits 18 = .ok (.if_icmp .ne 33, 3) := by decide +kernel
theorem dX11_fits_21 : decode cX11_fits 21 = .ok (.aload_n 0, 1) := by decide +kernel
theorem dX11_fits_22 : decode cX11_fits 22 = .ok (.getfield 225, 3) := by decide +kernel
theorem dX11_fits_25 : decode cX11_fits 25 = .ok (.aload_n 0, 1) := by decide +kernel
theorem dX11_fits_26 : decode cX11_fits 26 = .ok (.getfield 31, 3) := by decide +kernel
theorem dX11_fits_29 : decode cX11_fits 29 = .ok (.iload_n 1, 1) := by decide +kernel
theorem dX11_fits_30 : decode cX11_fits 30 = .ok (.iaload, 1) := by decide +kernel
theorem dX11_fits_31 : decode cX11_fits 31 = .ok (.ixor, 1) := by decide +kernel
theorem dX11_fits_32 : decode cX11_fits 32 = .ok (.bipush 8, 2) := by decide +kernel
theorem dX11_fits_34 : decode cX11_fits 34 = .ok (.aload_n 0, 1) := by decide +kernel
theorem dX11_fits_35 : decode cX11_fits 35 = .ok (.getfield 34, 3) := by decide +kernel
theorem dX11_fits_38 : decode cX11_fits 38 = .ok (.iload_n 1, 1) := by decide +kernel
theorem dX11_fits_39 : decode cX11_fits 39 = .ok (.iaload, 1) := by decide +kernel
theorem dX11_fits_40 : decode cX11_fits 40 = .ok (.isub, 1) := by decide +kernel
theorem dX11_fits_41 : decode cX11_fits 41 = .ok (.ishr, 1) := by decide +kernel
theorem dX11_fits_42 : decode cX11_fits 42 = .ok (.ifCond .ne 7, 3) := by decide +kernel
theorem dX11_fits_45 : decode cX11_fits 45 = .ok (.iconst 1, 1) := by decide +kernel
theorem dX11_fits_46 : decode cX11_fits 46 = .ok (.goto 4, 3) := by decide +kernel
theorem dX11_fits_49 : decode cX11_fits 49 = .ok (.iconst 0, 1) := by decide +kernel
theorem dX11_fits_50 : decode cX11_fits 50 = .ok (.ireturn, 1) := by decide +kernel
theorem dX11_fits_51 : decode cX11_fits 51 = .ok (.aload_n 0, 1) := by decide +kernel
theorem dX11_fits_52 : decode cX11_fits 52 = .ok (.invokevirtual 234, 3) := by decide +kernel
theorem dX11_fits_55 : decode cX11_fits 55 = .ok (.ifCond .ne 5, 3) := by decide +kernel
theorem dX11_fits_58 : decode cX11_fits 58 = .ok (.iconst 5, 1) := by decide +kernel
theorem dX11_fits_59 : decode cX11_fits 59 = .ok (.ireturn, 1) := by decide +kernel
theorem dX11_fits_60 : decode cX11_fits 60 = .ok (.aload_n 0, 1) := by decide +kernel
theorem dX11_fits_61 : decode cX11_fits 61 = .ok (.aload_n 0, 1) := by decide +kernel
theorem dX11_fits_62 : decode cX11_fits 62 = .ok (.getfield 28, 3) := by decide +kernel
theorem dX11_fits_65 : decode cX11_fits 65 = .ok (.iload_n 1, 1) := by decide +kernel
theorem dX11_fits_66 : decode cX11_fits 66 = .ok (.iaload, 1) := by decide +kernel
theorem dX11_fits_67 : decode cX11_fits 67 = .ok (.iconst 5, 1) := by decide +kernel
theorem dX11_fits_68 : decode cX11_fits 68 = .ok (.if_icmp .ne 11, 3) := by decide +kernel
theorem dX11_fits_71 : decode cX11_fits 71 = .ok (.aload_n 0, 1) := by decide +kernel
theorem dX11_fits_72 : decode cX11_fits 72 = .ok (.iload_n 1, 1) := by decide +kernel
theorem dX11_fits_73 : decode cX11_fits 73 = .ok (.invokevirtual 237, 3) := by decide +kernel
theorem dX11_fits_76 : decode cX11_fits 76 = .ok (.goto 9, 3) := by decide +kernel
theorem dX11_fits_79 : decode cX11_fits 79 = .ok (.aload_n 0, 1) := by decide +kernel
theorem dX11_fits_80 : decode cX11_fits 80 = .ok (.getfield 37, 3) := by decide +kernel
theorem dX11_fits_83 : decode cX11_fits 83 = .ok (.iload_n 1, 1) := by decide +kernel
theorem dX11_fits_84 : decode cX11_fits 84 = .ok (.iaload, 1) := by decide +kernel
theorem dX11_fits_85 : decode cX11_fits 85 = .ok (.invokevirtual 240, 3) := by decide +kernel
theorem dX11_fits_88 : decode cX11_fits 88 = .ok (.istore_n 2, 1) := by decide +kernel
theorem dX11_fits_89 : decode cX11_fits 89 = .ok (.aload_n 0, 1) := by decide +kernel
theorem dX11_fits_90 : decode cX11_fits 90 = .ok (.getfield 28, 3) := by decide +kernel
theorem dX11_fits_93 : decode cX11_fits 93 = .ok (.iload_n 1, 1) := by decide +kernel
theorem dX11_fits_94 : decode cX11_fits 94 = .ok (.iaload, 1) := by decide +kernel
theorem dX11_fits_95 : decode cX11_fits 95 = .ok (.iconst 4, 1) := by decide +kernel
theorem dX11_fits_96 : decode cX11_fits 96 = .ok (.if_icmp .ne 106, 3) := by decide +kernel
theorem dX11_fits_99 : decode cX11_fits 99 = .ok (.iload_n 2, 1) := by decide +kernel
theorem dX11_fits_100 : decode cX11_fits 100 = .ok (.bipush (-4), 2) := by decide +kernel
theorem dX11_fits_102 : decode cX11_fits 102 = .ok (.if_icmp .ne 7, 3) := by decide +kernel
theorem dX11_fits_105 : decode cX11_fits 105 = .ok (.iconst 0, 1) := by decide +kernel
theorem dX11_fits_106 : decode cX11_fits 106 = .ok (.goto 9, 3) := by decide +kernel
theorem dX11_fits_109 : decode cX11_fits 109 = .ok (.aload_n 0, 1) := by decide +kernel
theorem dX11_fits_110 : decode cX11_fits 110 = .ok (.getfield 22, 3) := by decide +kernel
theorem dX11_fits_113 : decode cX11_fits 113 = .ok (.iload_n 2, 1) := by decide +kernel
theorem dX11_fits_114 : decode cX11_fits 114 = .ok (.iaload, 1) := by decide +kernel
theorem dX11_fits_115 : decode cX11_fits 115 = .ok (.istore_n 3, 1) := by decide +kernel
theorem dX11_fits_116 : decode cX11_fits 116 = .ok (.iconst 0, 1) := by decide +kernel
theorem dX11_fits_117 : decode cX11_fits 117 = .ok (.istore 4, 2) := by decide +kernel
theorem dX11_fits_119 : decode cX11_fits 119 = .ok (.iconst 0, 1) := by decide +kernel
theorem dX11_fits_120 : decode cX11_fits 120 = .ok (.istore 5, 2) := by decide +kernel
theorem dX11_fits_122 : decode cX11_fits 122 = .ok (.iload 5, 2) := by decide +kernel
theorem dX11_fits_124 : decode cX11_fits 124 = .ok (.iload_n 3, 1) := by decide +kernel
theorem dX11_fits_125 : decode cX11_fits 125 = .ok (.if_icmp .ge 47, 3) := by decide +kernel
theorem dX11_fits_128 : decode cX11_fits 128 = .ok (.iload 4, 2) := by decide +kernel
theorem dX11_fits_130 : decode cX11_fits 130 = .ok (.ifCond .ne 29, 3) := by decide +kernel
theorem dX11_fits_133 : decode cX11_fits 133 = .ok (.aload_n 0, 1) := by decide +kernel
theorem dX11_fits_134 : decode cX11_fits 134 = .ok (.aload_n 0, 1) := by decide +kernel
theorem dX11_fits_135 : decode cX11_fits 135 = .ok (.aload_n 0, 1) := by decide +kernel
theorem dX11_fits_136 : decode cX11_fits 136 = .ok (.getfield 25, 3) := by decide +kernel
theorem dX11_fits_139 : decode cX11_fits 139 = .ok (.iconst 3, 1) := by decide +kernel
theorem dX11_fits_140 : decode cX11_fits 140 = .ok (.iload_n 2, 1) := by decide +kernel
theorem dX11_fits_141 : decode cX11_fits 141 = .ok (.imul, 1) := by decide +kernel
theorem dX11_fits_142 : decode cX11_fits 142 = .ok (.iload 5, 2) := by decide +kernel
theorem dX11_fits_144 : decode cX11_fits 144 = .ok (.iadd, 1) := by decide +kernel
theorem dX11_fits_145 : decode cX11_fits 145 = .ok (.iaload, 1) := by decide +kernel
theorem dX11_fits_146 : decode cX11_fits 146 = .ok (.invokevirtual 240, 3) := by decide +kernel
theorem dX11_fits_149 : decode cX11_fits 149 = .ok (.aload_n 0, 1) := by decide +kernel
theorem dX11_fits_150 : decode cX11_fits 150 = .ok (.getfield 225, 3) := by decide +kernel
theorem dX11_fits_153 : decode cX11_fits 153 = .ok (.invokevirtual 243, 3) := by decide +kernel
theorem dX11_fits_156 : decode cX11_fits 156 = .ok (.ifCond .eq 7, 3) := by decide +kernel
theorem dX11_fits_159 : decode cX11_fits 159 = .ok (.iconst 1, 1) := by decide +kernel
theorem dX11_fits_160 : decode cX11_fits 160 = .ok (.goto 4, 3) := by decide +kernel
theorem dX11_fits_163 : decode cX11_fits 163 = .ok (.iconst 0, 1) := by decide +kernel
theorem dX11_fits_164 : decode cX11_fits 164 = .ok (.istore 4, 2) := by decide +kernel
theorem dX11_fits_166 : decode cX11_fits 166 = .ok (.iinc 5 1, 3) := by decide +kernel
theorem dX11_fits_169 : decode cX11_fits 169 = .ok (.goto (-47), 3) := by decide +kernel
theorem dX11_fits_172 : decode cX11_fits 172 = .ok (.iload_n 3, 1) := by decide +kernel
theorem dX11_fits_173 : decode cX11_fits 173 = .ok (.ifCond .ne 18, 3) := by decide +kernel
theorem dX11_fits_176 : decode cX11_fits 176 = .ok (.aload_n 0, 1) := by decide +kernel
theorem dX11_fits_177 : decode cX11_fits 177 = .ok (.invokevirtual 247, 3) := by decide +kernel
theorem dX11_fits_180 : decode cX11_fits 180 = .ok (.ifCond .eq 7, 3) := by decide +kernel
theorem dX11_fits_183 : decode cX11_fits 183 = .ok (.iconst 0, 1) := by decide +kernel
theorem dX11_fits_184 : decode cX11_fits 184 = .ok (.goto 17, 3) := by decide +kernel
theorem dX11_fits_187 : decode cX11_fits 187 = .ok (.iconst 5, 1) := by decide +kernel
theorem dX11_fits_188 : decode cX11_fits 188 = .ok (.goto 13, 3) := by decide +kernel
theorem dX11_fits_191 : decode cX11_fits 191 = .ok (.iload 4, 2) := by decide +kernel
theorem dX11_fits_193 : decode cX11_fits 193 = .ok (.ifCond .eq 7, 3) := by decide +kernel
theorem dX11_fits_196 : decode cX11_fits 196 = .ok (.iconst 1, 1) := by decide +kernel
theorem dX11_fits_197 : decode cX11_fits 197 = .ok (.goto 4, 3) := by decide +kernel
theorem dX11_fits_200 : decode cX11_fits 200 = .ok (.iconst 0, 1) := by decide +kernel
theorem dX11_fits_201 : decode cX11_fits 201 = .ok (.ireturn, 1) := by decide +kernel
theorem dX11_fits_202 : decode cX11_fits 202 = .ok (.aload_n 0, 1) := by decide +kernel
theorem dX11_fits_203 : decode cX11_fits 203 = .ok (.iload_n 2, 1) := by decide +kernel
theorem dX11_fits_204 : decode cX11_fits 204 = .ok (.invokevirtual 250, 3) := by decide +kernel
theorem dX11_fits_207 : decode cX11_fits 207 = .ok (.ifCond .ne 16, 3) := by decide +kernel
theorem dX11_fits_210 : decode cX11_fits 210 = .ok (.aload_n 0, 1) := by decide +kernel
theorem dX11_fits_211 : decode cX11_fits 211 = .ok (.invokevirtual 247, 3) := by decide +kernel
theorem dX11_fits_214 : decode cX11_fits 214 = .ok (.ifCond .eq 7, 3) := by decide +kernel
theorem dX11_fits_217 : decode cX11_fits 217 = .ok (.iconst 0, 1) := by decide +kernel
theorem dX11_fits_218 : decode cX11_fits 218 = .ok (.goto 4, 3) := by decide +kernel
theorem dX11_fits_221 : decode cX11_fits 221 = .ok (.iconst 5, 1) := by decide +kernel
theorem dX11_fits_222 : decode cX11_fits 222 = .ok (.ireturn, 1) := by decide +kernel
theorem dX11_fits_223 : decode cX11_fits 223 = .ok (.aload_n 0, 1) := by decide +kernel
theorem dX11_fits_224 : decode cX11_fits 224 = .ok (.getfield 28, 3) := by decide +kernel
theorem dX11_fits_227 : decode cX11_fits 227 = .ok (.iload_n 1, 1) := by decide +kernel
theorem dX11_fits_228 : decode cX11_fits 228 = .ok (.iaload, 1) := by decide +kernel
theorem dX11_fits_229 : decode cX11_fits 229 = .ok (.iconst 5, 1) := by decide +kernel
theorem dX11_fits_230 : decode cX11_fits 230 = .ok (.if_icmp .eq 15, 3) := by decide +kernel
theorem dX11_fits_233 : decode cX11_fits 233 = .ok (.aload_n 0, 1) := by decide +kernel
theorem dX11_fits_234 : decode cX11_fits 234 = .ok (.iload_n 2, 1) := by decide +kernel
theorem dX11_fits_235 : decode cX11_fits 235 = .ok (.aload_n 0, 1) := by decide +kernel
theorem dX11_fits_236 : decode cX11_fits 236 = .ok (.getfield 225, 3) := by decide +kernel
theorem dX11_fits_239 : decode cX11_fits 239 = .ok (.invokevirtual 243, 3) := by decide +kernel
theorem dX11_fits_242 : decode cX11_fits 242 = .ok (.ifCond .eq 7, 3) := by decide +kernel
theorem dX11_fits_245 : decode cX11_fits 245 = .ok (.iconst 1, 1) := by decide +kernel
theorem dX11_fits_246 : decode cX11_fits 246 = .ok (.goto 4, 3) := by decide +kernel
theorem dX11_fits_249 : decode cX11_fits 249 = .ok (.iconst 0, 1) := by decide +kernel
theorem dX11_fits_250 : decode cX11_fits 250 = .ok (.ireturn, 1) := by decide +kernel
theorem dX11_answerOf_0 : decode cX11_answerOf 0 = .ok (.iload_n 0, 1) := by decide +kernel
theorem dX11_answerOf_1 : decode cX11_answerOf 1 = .ok (.ifCond .ne 7, 3) := by decide +kernel
theorem dX11_answerOf_4 : decode cX11_answerOf 4 = .ok (.iconst 2, 1) := by decide +kernel
theorem dX11_answerOf_5 : decode cX11_answerOf 5 = .ok (.goto 15, 3) := by decide +kernel
theorem dX11_answerOf_8 : decode cX11_answerOf 8 = .ok (.iload_n 0, 1) := by decide +kernel
theorem dX11_answerOf_9 : decode cX11_answerOf 9 = .ok (.iconst 3, 1) := by decide +kernel
theorem dX11_answerOf_10 : decode cX11_answerOf 10 = .ok (.if_icmp .ne 7, 3) := by decide +kernel
theorem dX11_answerOf_13 : decode cX11_answerOf 13 = .ok (.iconst 1, 1) := by decide +kernel
theorem dX11_answerOf_14 : decode cX11_answerOf 14 = .ok (.goto 6, 3) := by decide +kernel
theorem dX11_answerOf_17 : decode cX11_answerOf 17 = .ok (.iload_n 0, 1) := by decide +kernel
theorem dX11_answerOf_18 : decode cX11_answerOf 18 = .ok (.iconst 2, 1) := by decide +kernel
theorem dX11_answerOf_19 : decode cX11_answerOf 19 = .ok (.iadd, 1) := by decide +kernel
theorem dX11_answerOf_20 : decode cX11_answerOf 20 = .ok (.ireturn, 1) := by decide +kernel
theorem dX11_ruleAt_0 : decode cX11_ruleAt 0 = .ok (.bipush 8, 2) := by decide +kernel
theorem dX11_ruleAt_2 : decode cX11_ruleAt 2 = .ok (.iload_n 1, 1) := by decide +kernel
theorem dX11_ruleAt_3 : decode cX11_ruleAt 3 = .ok (.imul, 1) := by decide +kernel
theorem dX11_ruleAt_4 : decode cX11_ruleAt 4 = .ok (.aload_n 0, 1) := by decide +kernel
theorem dX11_ruleAt_5 : decode cX11_ruleAt 5 = .ok (.getfield 46, 3) := by decide +kernel
theorem dX11_ruleAt_8 : decode cX11_ruleAt 8 = .ok (.bipush 21, 2) := by decide +kernel
theorem dX11_ruleAt_10 : decode cX11_ruleAt 10 = .ok (.iload_n 1, 1) := by decide +kernel
theorem dX11_ruleAt_11 : decode cX11_ruleAt 11 = .ok (.imul, 1) := by decide +kernel
theorem dX11_ruleAt_12 : decode cX11_ruleAt 12 = .ok (.iload_n 2, 1) := by decide +kernel
theorem dX11_ruleAt_13 : decode cX11_ruleAt 13 = .ok (.iadd, 1) := by decide +kernel
theorem dX11_ruleAt_14 : decode cX11_ruleAt 14 = .ok (.iaload, 1) := by decide +kernel
theorem dX11_ruleAt_15 : decode cX11_ruleAt 15 = .ok (.iadd, 1) := by decide +kernel
theorem dX11_ruleAt_16 : decode cX11_ruleAt 16 = .ok (.ireturn, 1) := by decide +kernel
theorem dX11_signAt_0 : decode cX11_signAt 0 = .ok (.aload_n 0, 1) := by decide +kernel
theorem dX11_signAt_1 : decode cX11_signAt 1 = .ok (.getfield 46, 3) := by decide +kernel
theorem dX11_signAt_4 : decode cX11_signAt 4 = .ok (.bipush 21, 2) := by decide +kernel
theorem dX11_signAt_6 : decode cX11_signAt 6 = .ok (.iload_n 1, 1) := by decide +kernel
theorem dX11_signAt_7 : decode cX11_signAt 7 = .ok (.imul, 1) := by decide +kernel
theorem dX11_signAt_8 : decode cX11_signAt 8 = .ok (.bipush 8, 2) := by decide +kernel
theorem dX11_signAt_10 : decode cX11_signAt 10 = .ok (.iadd, 1) := by decide +kernel
theorem dX11_signAt_11 : decode cX11_signAt 11 = .ok (.aload_n 0, 1) := by decide +kernel
theorem dX11_signAt_12 : decode cX11_signAt 12 = .ok (.getfield 46, 3) := by decide +kernel
theorem dX11_signAt_15 : decode cX11_signAt 15 = .ok (.bipush 21, 2) := by decide +kernel
theorem dX11_signAt_17 : decode cX11_signAt 17 = .ok (.iload_n 1, 1) := by decide +kernel
theorem dX11_signAt_18 : decode cX11_signAt 18 = .ok (.imul, 1) := by decide +kernel
theorem dX11_signAt_19 : decode cX11_signAt 19 = .ok (.iload_n 2, 1) := by decide +kernel
theorem dX11_signAt_20 : decode cX11_signAt 20 = .ok (.iadd, 1) := by decide +kernel
theorem dX11_signAt_21 : decode cX11_signAt 21 = .ok (.iaload, 1) := by decide +kernel
theorem dX11_signAt_22 : decode cX11_signAt 22 = .ok (.iadd, 1) := by decide +kernel
theorem dX11_signAt_23 : decode cX11_signAt 23 = .ok (.iaload, 1) := by decide +kernel
theorem dX11_signAt_24 : decode cX11_signAt 24 = .ok (.ireturn, 1) := by decide +kernel
theorem dX11_ends_0 : decode cX11_ends 0 = .ok (.aload_n 0, 1) := by decide +kernel
theorem dX11_ends_1 : decode cX11_ends 1 = .ok (.getfield 215, 3) := by decide +kernel
theorem dX11_ends_4 : decode cX11_ends 4 = .ok (.iconst 1, 1) := by decide +kernel
theorem dX11_ends_5 : decode cX11_ends 5 = .ok (.if_icmp .ne 13, 3) := by decide +kernel
theorem dX11_ends_8 : decode cX11_ends 8 = .ok (.aload_n 0, 1) := by decide +kernel
theorem dX11_ends_9 : decode cX11_ends 9 = .ok (.iload_n 1, 1) := by decide +kernel
theorem dX11_ends_10 : decode cX11_ends 10 = .ok (.putfield 253, 3) := by decide +kernel
theorem dX11_ends_13 : decode cX11_ends 13 = .ok (.aload_n 0, 1) := by decide +kernel
theorem dX11_ends_14 : decode cX11_ends 14 = .ok (.iload_n 2, 1) := by decide +kernel
theorem dX11_ends_15 : decode cX11_ends 15 = .ok (.putfield 256, 3) := by decide +kernel
theorem dX11_ends_18 : decode cX11_ends 18 = .ok (.aload_n 0, 1) := by decide +kernel
theorem dX11_ends_19 : decode cX11_ends 19 = .ok (.iload_n 1, 1) := by decide +kernel
theorem dX11_ends_20 : decode cX11_ends 20 = .ok (.iload_n 2, 1) := by decide +kernel
theorem dX11_ends_21 : decode cX11_ends 21 = .ok (.invokevirtual 259, 3) := by decide +kernel
theorem dX11_ends_24 : decode cX11_ends 24 = .ok (.invokestatic 262, 3) := by decide +kernel
theorem dX11_ends_27 : decode cX11_ends 27 = .ok (.ireturn, 1) := by decide +kernel
theorem dX11_enters_0 : decode cX11_enters 0 = .ok (.iload_n 1, 1) := by decide +kernel
theorem dX11_enters_1 : decode cX11_enters 1 = .ok (.bipush (-4), 2) := by decide +kernel
theorem dX11_enters_3 : decode cX11_enters 3 = .ok (.if_icmp .eq 12, 3) := by decide +kernel
theorem dX11_enters_6 : decode cX11_enters 6 = .ok (.aload_n 0, 1) := by decide +kernel
theorem dX11_enters_7 : decode cX11_enters 7 = .ok (.getfield 16, 3) := by decide +kernel
theorem dX11_enters_10 : decode cX11_enters 10 = .ok (.iload_n 1, 1) := by decide +kernel
theorem dX11_enters_11 : decode cX11_enters 11 = .ok (.iaload, 1) := by decide +kernel
theorem dX11_enters_12 : decode cX11_enters 12 = .ok (.ifCond .ne 5, 3) := by decide +kernel
theorem dX11_enters_15 : decode cX11_enters 15 = .ok (.iconst 0, 1) := by decide +kernel
theorem dX11_enters_16 : decode cX11_enters 16 = .ok (.ireturn, 1) := by decide +kernel
theorem dX11_enters_17 : decode cX11_enters 17 = .ok (.aload_n 0, 1) := by decide +kernel
theorem dX11_enters_18 : decode cX11_enters 18 = .ok (.getfield 97, 3) := by decide +kernel
theorem dX11_enters_21 : decode cX11_enters 21 = .ok (.aload_n 0, 1) := by decide +kernel
theorem dX11_enters_22 : decode cX11_enters 22 = .ok (.getfield 215, 3) := by decide +kernel
theorem dX11_enters_25 : decode cX11_enters 25 = .ok (.iload_n 1, 1) := by decide +kernel
theorem dX11_enters_26 : decode cX11_enters 26 = .ok (.iastore, 1) := by decide +kernel
theorem dX11_enters_27 : decode cX11_enters 27 = .ok (.aload_n 0, 1) := by decide +kernel
theorem dX11_enters_28 : decode cX11_enters 28 = .ok (.getfield 100, 3) := by decide +kernel
theorem dX11_enters_31 : decode cX11_enters 31 = .ok (.aload_n 0, 1) := by decide +kernel
theorem dX11_enters_32 : decode cX11_enters 32 = .ok (.getfield 215, 3) := by decide +kernel
theorem dX11_enters_35 : decode cX11_enters 35 = .ok (.iconst 0, 1) := by decide +kernel
theorem dX11_enters_36 : decode cX11_enters 36 = .ok (.iastore, 1) := by decide +kernel
theorem dX11_enters_37 : decode cX11_enters 37 = .ok (.aload_n 0, 1) := by decide +kernel
theorem dX11_enters_38 : decode cX11_enters 38 = .ok (.dup, 1) := by decide +kernel
theorem dX11_enters_39 : decode cX11_enters 39 = .ok (.getfield 215, 3) := by decide +kernel
theorem dX11_enters_42 : decode cX11_enters 42 = .ok (.iconst 1, 1) := by decide +kernel
theorem dX11_enters_43 : decode cX11_enters 43 = .ok (.iadd, 1) := by decide +kernel
theorem dX11_enters_44 : decode cX11_enters 44 = .ok (.putfield 215, 3) := by decide +kernel
theorem dX11_enters_47 : decode cX11_enters 47 = .ok (.iconst 1, 1) := by decide +kernel
theorem dX11_enters_48 : decode cX11_enters 48 = .ok (.ireturn, 1) := by decide +kernel
theorem dX11_error_0 : decode cX11_error 0 = .ok (.aload_n 0, 1) := by decide +kernel
theorem dX11_error_1 : decode cX11_error 1 = .ok (.bipush (-4), 2) := by decide +kernel
theorem dX11_error_3 : decode cX11_error 3 = .ok (.putfield 253, 3) := by decide +kernel
theorem dX11_error_6 : decode cX11_error 6 = .ok (.aload_n 0, 1) := by decide +kernel
theorem dX11_error_7 : decode cX11_error 7 = .ok (.bipush (-4), 2) := by decide +kernel
theorem dX11_error_9 : decode cX11_error 9 = .ok (.putfield 256, 3) := by decide +kernel
theorem dX11_error_12 : decode cX11_error 12 = .ok (.iconst 5, 1) := by decide +kernel
theorem dX11_error_13 : decode cX11_error 13 = .ok (.ireturn, 1) := by decide +kernel
theorem dX11_goes_0 : decode cX11_goes 0 = .ok (.aload_n 0, 1) := by decide +kernel
theorem dX11_goes_1 : decode cX11_goes 1 = .ok (.iload_n 1, 1) := by decide +kernel
theorem dX11_goes_2 : decode cX11_goes 2 = .ok (.putfield 218, 3) := by decide +kernel
theorem dX11_goes_5 : decode cX11_goes 5 = .ok (.aload_n 0, 1) := by decide +kernel
theorem dX11_goes_6 : decode cX11_goes 6 = .ok (.iload_n 2, 1) := by decide +kernel
theorem dX11_goes_7 : decode cX11_goes 7 = .ok (.putfield 225, 3) := by decide +kernel
theorem dX11_goes_10 : decode cX11_goes 10 = .ok (.aload_n 0, 1) := by decide +kernel
theorem dX11_goes_11 : decode cX11_goes 11 = .ok (.iload_n 3, 1) := by decide +kernel
theorem dX11_goes_12 : decode cX11_goes 12 = .ok (.putfield 228, 3) := by decide +kernel
theorem dX11_goes_15 : decode cX11_goes 15 = .ok (.aload_n 0, 1) := by decide +kernel
theorem dX11_goes_16 : decode cX11_goes 16 = .ok (.iconst 0, 1) := by decide +kernel
theorem dX11_goes_17 : decode cX11_goes 17 = .ok (.putfield 200, 3) := by decide +kernel
theorem dX11_goes_20 : decode cX11_goes 20 = .ok (.aload_n 0, 1) := by decide +kernel
theorem dX11_goes_21 : decode cX11_goes 21 = .ok (.iconst 0, 1) := by decide +kernel
theorem dX11_goes_22 : decode cX11_goes 22 = .ok (.putfield 203, 3) := by decide +kernel
theorem dX11_goes_25 : decode cX11_goes 25 = .ok (.aload_n 0, 1) := by decide +kernel
theorem dX11_goes_26 : decode cX11_goes 26 = .ok (.bipush (-4), 2) := by decide +kernel
theorem dX11_goes_28 : decode cX11_goes 28 = .ok (.putfield 253, 3) := by decide +kernel
theorem dX11_goes_31 : decode cX11_goes 31 = .ok (.aload_n 0, 1) := by decide +kernel
theorem dX11_goes_32 : decode cX11_goes 32 = .ok (.bipush (-4), 2) := by decide +kernel
theorem dX11_goes_34 : decode cX11_goes 34 = .ok (.putfield 256, 3) := by decide +kernel
theorem dX11_goes_37 : decode cX11_goes 37 = .ok (.aload_n 0, 1) := by decide +kernel
theorem dX11_goes_38 : decode cX11_goes 38 = .ok (.iconst 0, 1) := by decide +kernel
theorem dX11_goes_39 : decode cX11_goes 39 = .ok (.putfield 215, 3) := by decide +kernel
theorem dX11_goes_42 : decode cX11_goes 42 = .ok (.aload_n 0, 1) := by decide +kernel
theorem dX11_goes_43 : decode cX11_goes 43 = .ok (.iload_n 1, 1) := by decide +kernel
theorem dX11_goes_44 : decode cX11_goes 44 = .ok (.invokevirtual 265, 3) := by decide +kernel
theorem dX11_goes_47 : decode cX11_goes 47 = .ok (.ifCond .ne 5, 3) := by decide +kernel
theorem dX11_goes_50 : decode cX11_goes 50 = .ok (.iconst 0, 1) := by decide +kernel
theorem dX11_goes_51 : decode cX11_goes 51 = .ok (.ireturn, 1) := by decide +kernel
theorem dX11_goes_52 : decode cX11_goes 52 = .ok (.aload_n 0, 1) := by decide +kernel
theorem dX11_goes_53 : decode cX11_goes 53 = .ok (.getfield 215, 3) := by decide +kernel
theorem dX11_goes_56 : decode cX11_goes 56 = .ok (.iconst 1, 1) := by decide +kernel
theorem dX11_goes_57 : decode cX11_goes 57 = .ok (.isub, 1) := by decide +kernel
theorem dX11_goes_58 : decode cX11_goes 58 = .ok (.istore 4, 2) := by decide +kernel
theorem dX11_goes_60 : decode cX11_goes 60 = .ok (.aload_n 0, 1) := by decide +kernel
theorem dX11_goes_61 : decode cX11_goes 61 = .ok (.getfield 97, 3) := by decide +kernel
theorem dX11_goes_64 : decode cX11_goes 64 = .ok (.iload 4, 2) := by decide +kernel
theorem dX11_goes_66 : decode cX11_goes 66 = .ok (.iaload, 1) := by decide +kernel
theorem dX11_goes_67 : decode cX11_goes 67 = .ok (.istore 5, 2) := by decide +kernel
theorem dX11_goes_69 : decode cX11_goes 69 = .ok (.aload_n 0, 1) := by decide +kernel
theorem dX11_goes_70 : decode cX11_goes 70 = .ok (.getfield 100, 3) := by decide +kernel
theorem dX11_goes_73 : decode cX11_goes 73 = .ok (.iload 4, 2) := by decide +kernel
theorem dX11_goes_75 : decode cX11_goes 75 = .ok (.iaload, 1) := by decide +kernel
theorem dX11_goes_76 : decode cX11_goes 76 = .ok (.istore 6, 2) := by decide +kernel
theorem dX11_goes_78 : decode cX11_goes 78 = .ok (.bipush (-4), 2) := by decide +kernel
theorem dX11_goes_80 : decode cX11_goes 80 = .ok (.istore 7, 2) := by decide +kernel
theorem dX11_goes_82 : decode cX11_goes 82 = .ok (.iload 6, 2) := by decide +kernel
theorem dX11_goes_84 : decode cX11_goes 84 = .ok (.aload_n 0, 1) := by decide +kernel
theorem dX11_goes_85 : decode cX11_goes 85 = .ok (.getfield 16, 3) := by decide +kernel
theorem dX11_goes_88 : decode cX11_goes 88 = .ok (.iload 5, 2) := by decide +kernel
theorem dX11_goes_90 : decode cX11_goes 90 = .ok (.iaload, 1) := by decide +kernel
theorem dX11_goes_91 : decode cX11_goes 91 = .ok (.if_icmp .ne 59, 3) := by decide +kernel
theorem dX11_goes_94 : decode cX11_goes 94 = .ok (.aload_n 0, 1) := by decide +kernel
theorem dX11_goes_95 : decode cX11_goes 95 = .ok (.getfield 19, 3) := by decide +kernel
theorem dX11_goes_98 : decode cX11_goes 98 = .ok (.iload 5, 2) := by decide +kernel
theorem dX11_goes_100 : decode cX11_goes 100 = .ok (.iaload, 1) := by decide +kernel
theorem dX11_goes_101 : decode cX11_goes 101 = .ok (.ifCond .ne 9, 3) := by decide +kernel
theorem dX11_goes_104 : decode cX11_goes 104 = .ok (.iconst 1, 1) := by decide +kernel
theorem dX11_goes_105 : decode cX11_goes 105 = .ok (.istore 7, 2) := by decide +kernel
theorem dX11_goes_107 : decode cX11_goes 107 = .ok (.goto 156, 3) := by decide +kernel
theorem dX11_goes_110 : decode cX11_goes 110 = .ok (.aload_n 0, 1) := by decide +kernel
theorem dX11_goes_111 : decode cX11_goes 111 = .ok (.dup, 1) := by decide +kernel
theorem dX11_goes_112 : decode cX11_goes 112 = .ok (.getfield 215, 3) := by decide +kernel
theorem dX11_goes_115 : decode cX11_goes 115 = .ok (.iconst 1, 1) := by decide +kernel
theorem dX11_goes_116 : decode cX11_goes 116 = .ok (.isub, 1) := by decide +kernel
theorem dX11_goes_117 : decode cX11_goes 117 = .ok (.putfield 215, 3) := by decide +kernel
theorem dX11_goes_120 : decode cX11_goes 120 = .ok (.aload_n 0, 1) := by decide +kernel
theorem dX11_goes_121 : decode cX11_goes 121 = .ok (.invokevirtual 234, 3) := by decide +kernel
theorem dX11_goes_124 : decode cX11_goes 124 = .ok (.ifCond .eq 21, 3) := by decide +kernel
theorem dX11_goes_127 : decode cX11_goes 127 = .ok (.aload_n 0, 1) := by decide +kernel
theorem dX11_goes_128 : decode cX11_goes 128 = .ok (.aload_n 0, 1) := by decide +kernel
theorem dX11_goes_129 : decode cX11_goes 129 = .ok (.aload_n 0, 1) := by decide +kernel
theorem dX11_goes_130 : decode cX11_goes 130 = .ok (.getfield 19, 3) := by decide +kernel
theorem dX11_goes_133 : decode cX11_goes 133 = .ok (.iload 5, 2) := by decide +kernel
theorem dX11_goes_135 : decode cX11_goes 135 = .ok (.iaload, 1) := by decide +kernel
theorem dX11_goes_136 : decode cX11_goes 136 = .ok (.invokevirtual 240, 3) := by decide +kernel
theorem dX11_goes_139 : decode cX11_goes 139 = .ok (.invokevirtual 265, 3) := by decide +kernel
theorem dX11_goes_142 : decode cX11_goes 142 = .ok (.ifCond .ne 121, 3) := by decide +kernel
theorem dX11_goes_145 : decode cX11_goes 145 = .ok (.aload_n 0, 1) := by decide +kernel
theorem dX11_goes_146 : decode cX11_goes 146 = .ok (.invokevirtual 268, 3) := by decide +kernel
theorem dX11_goes_149 : decode cX11_goes 149 = .ok (.ireturn, 1) := by decide +kernel
theorem dX11_goes_150 : decode cX11_goes 150 = .ok (.aload_n 0, 1) := by decide +kernel
theorem dX11_goes_151 : decode cX11_goes 151 = .ok (.getfield 28, 3) := by decide +kernel
theorem dX11_goes_154 : decode cX11_goes 154 = .ok (.aload_n 0, 1) := by decide +kernel
theorem dX11_goes_155 : decode cX11_goes 155 = .ok (.iload 5, 2) := by decide +kernel
theorem dX11_goes_157 : decode cX11_goes 157 = .ok (.iload 6, 2) := by decide +kernel
theorem dX11_goes_159 : decode cX11_goes 159 = .ok (.invokevirtual 271, 3) := by decide +kernel
theorem dX11_goes_162 : decode cX11_goes 162 = .ok (.iaload, 1) := by decide +kernel
theorem dX11_goes_163 : decode cX11_goes 163 = .ok (.iconst 2, 1) := by decide +kernel
theorem dX11_goes_164 : decode cX11_goes 164 = .ok (.if_icmp .ne 39, 3) := by decide +kernel
theorem dX11_goes_167 : decode cX11_goes 167 = .ok (.aload_n 0, 1) := by decide +kernel
theorem dX11_goes_168 : decode cX11_goes 168 = .ok (.invokevirtual 234, 3) := by decide +kernel
theorem dX11_goes_171 : decode cX11_goes 171 = .ok (.ifCond .eq 27, 3) := by decide +kernel
theorem dX11_goes_174 : decode cX11_goes 174 = .ok (.aload_n 0, 1) := by decide +kernel
theorem dX11_goes_175 : decode cX11_goes 175 = .ok (.aload_n 0, 1) := by decide +kernel
theorem dX11_goes_176 : decode cX11_goes 176 = .ok (.aload_n 0, 1) := by decide +kernel
theorem dX11_goes_177 : decode cX11_goes 177 = .ok (.getfield 37, 3) := by decide +kernel
theorem dX11_goes_180 : decode cX11_goes 180 = .ok (.aload_n 0, 1) := by decide +kernel
theorem dX11_goes_181 : decode cX11_goes 181 = .ok (.iload 5, 2) := by decide +kernel
theorem dX11_goes_183 : decode cX11_goes 183 = .ok (.iload 6, 2) := by decide +kernel
theorem dX11_goes_185 : decode cX11_goes 185 = .ok (.invokevirtual 271, 3) := by decide +kernel
theorem dX11_goes_188 : decode cX11_goes 188 = .ok (.iaload, 1) := by decide +kernel
theorem dX11_goes_189 : decode cX11_goes 189 = .ok (.invokevirtual 240, 3) := by decide +kernel
theorem dX11_goes_192 : decode cX11_goes 192 = .ok (.invokevirtual 265, 3) := by decide +kernel
theorem dX11_goes_195 : decode cX11_goes 195 = .ok (.ifCond .ne 68, 3) := by decide +kernel
theorem dX11_goes_198 : decode cX11_goes 198 = .ok (.aload_n 0, 1) := by decide +kernel
theorem dX11_goes_199 : decode cX11_goes 199 = .ok (.invokevirtual 268, 3) := by decide +kernel
theorem dX11_goes_202 : decode cX11_goes 202 = .ok (.ireturn, 1) := by decide +kernel
theorem dX11_goes_203 : decode cX11_goes 203 = .ok (.aload_n 0, 1) := by decide +kernel
theorem dX11_goes_204 : decode cX11_goes 204 = .ok (.aload_n 0, 1) := by decide +kernel
theorem dX11_goes_205 : decode cX11_goes 205 = .ok (.iload 5, 2) := by decide +kernel
theorem dX11_goes_207 : decode cX11_goes 207 = .ok (.iload 6, 2) := by decide +kernel
theorem dX11_goes_209 : decode cX11_goes 209 = .ok (.invokevirtual 271, 3) := by decide +kernel
theorem dX11_goes_212 : decode cX11_goes 212 = .ok (.invokevirtual 274, 3) := by decide +kernel
theorem dX11_goes_215 : decode cX11_goes 215 = .ok (.istore 8, 2) := by decide +kernel
theorem dX11_goes_217 : decode cX11_goes 217 = .ok (.iload 8, 2) := by decide +kernel
theorem dX11_goes_219 : decode cX11_goes 219 = .ok (.iconst 5, 1) := by decide +kernel
theorem dX11_goes_220 : decode cX11_goes 220 = .ok (.if_icmp .ne 8, 3) := by decide +kernel
theorem dX11_goes_223 : decode cX11_goes 223 = .ok (.aload_n 0, 1) := by decide +kernel
theorem dX11_goes_224 : decode cX11_goes 224 = .ok (.invokevirtual 268, 3) := by decide +kernel
theorem dX11_goes_227 : decode cX11_goes 227 = .ok (.ireturn, 1) := by decide +kernel
theorem dX11_goes_228 : decode cX11_goes 228 = .ok (.aload_n 0, 1) := by decide +kernel
theorem dX11_goes_229 : decode cX11_goes 229 = .ok (.getfield 100, 3) := by decide +kernel
theorem dX11_goes_232 : decode cX11_goes 232 = .ok (.iload 4, 2) := by decide +kernel
theorem dX11_goes_234 : decode cX11_goes 234 = .ok (.dup2, 1) := by decide +kernel
theorem dX11_goes_235 : decode cX11_goes 235 = .ok (.iaload, 1) := by decide +kernel
theorem dX11_goes_236 : decode cX11_goes 236 = .ok (.iconst 1, 1) := by decide +kernel
theorem dX11_goes_237 : decode cX11_goes 237 = .ok (.iload 8, 2) := by decide +kernel
theorem dX11_goes_239 : decode cX11_goes 239 = .ok (.isub, 1) := by decide +kernel
theorem dX11_goes_240 : decode cX11_goes 240 = .ok (.iadd, 1) := by decide +kernel
theorem dX11_goes_241 : decode cX11_goes 241 = .ok (.iastore, 1) := by decide +kernel
theorem dX11_goes_242 : decode cX11_goes 242 = .ok (.iload 8, 2) := by decide +kernel
theorem dX11_goes_244 : decode cX11_goes 244 = .ok (.iconst 1, 1) := by decide +kernel
theorem dX11_goes_245 : decode cX11_goes 245 = .ok (.if_icmp .ne 14, 3) := by decide +kernel
theorem dX11_goes_248 : decode cX11_goes 248 = .ok (.aload_n 0, 1) := by decide +kernel
theorem dX11_goes_249 : decode cX11_goes 249 = .ok (.iload 5, 2) := by decide +kernel
theorem dX11_goes_251 : decode cX11_goes 251 = .ok (.iload 6, 2) := by decide +kernel
theorem dX11_goes_253 : decode cX11_goes 253 = .ok (.invokevirtual 277, 3) := by decide +kernel
theorem dX11_goes_256 : decode cX11_goes 256 = .ok (.goto 5, 3) := by decide +kernel
theorem dX11_goes_259 : decode cX11_goes 259 = .ok (.bipush (-4), 2) := by decide +kernel
theorem dX11_goes_261 : decode cX11_goes 261 = .ok (.istore 7, 2) := by decide +kernel
theorem dX11_goes_263 : decode cX11_goes 263 = .ok (.iload 7, 2) := by decide +kernel
theorem dX11_goes_265 : decode cX11_goes 265 = .ok (.bipush (-4), 2) := by decide +kernel
theorem dX11_goes_267 : decode cX11_goes 267 = .ok (.if_icmp .eq 86, 3) := by decide +kernel
theorem dX11_goes_270 : decode cX11_goes 270 = .ok (.aload_n 0, 1) := by decide +kernel
theorem dX11_goes_271 : decode cX11_goes 271 = .ok (.dup, 1) := by decide +kernel
theorem dX11_goes_272 : decode cX11_goes 272 = .ok (.getfield 215, 3) := by decide +kernel
theorem dX11_goes_275 : decode cX11_goes 275 = .ok (.iconst 1, 1) := by decide +kernel
theorem dX11_goes_276 : decode cX11_goes 276 = .ok (.isub, 1) := by decide +kernel
theorem dX11_goes_277 : decode cX11_goes 277 = .ok (.putfield 215, 3) := by decide +kernel
theorem dX11_goes_280 : decode cX11_goes 280 = .ok (.aload_n 0, 1) := by decide +kernel
theorem dX11_goes_281 : decode cX11_goes 281 = .ok (.getfield 215, 3) := by decide +kernel
theorem dX11_goes_284 : decode cX11_goes 284 = .ok (.ifCond .ne 6, 3) := by decide +kernel
theorem dX11_goes_287 : decode cX11_goes 287 = .ok (.iload 7, 2) := by decide +kernel
theorem dX11_goes_289 : decode cX11_goes 289 = .ok (.ireturn, 1) := by decide +kernel
theorem dX11_goes_290 : decode cX11_goes 290 = .ok (.aload_n 0, 1) := by decide +kernel
theorem dX11_goes_291 : decode cX11_goes 291 = .ok (.getfield 97, 3) := by decide +kernel
theorem dX11_goes_294 : decode cX11_goes 294 = .ok (.aload_n 0, 1) := by decide +kernel
theorem dX11_goes_295 : decode cX11_goes 295 = .ok (.getfield 215, 3) := by decide +kernel
theorem dX11_goes_298 : decode cX11_goes 298 = .ok (.iconst 1, 1) := by decide +kernel
theorem dX11_goes_299 : decode cX11_goes 299 = .ok (.isub, 1) := by decide +kernel
theorem dX11_goes_300 : decode cX11_goes 300 = .ok (.iaload, 1) := by decide +kernel
theorem dX11_goes_301 : decode cX11_goes 301 = .ok (.istore 8, 2) := by decide +kernel
theorem dX11_goes_303 : decode cX11_goes 303 = .ok (.iload 7, 2) := by decide +kernel
theorem dX11_goes_305 : decode cX11_goes 305 = .ok (.iconst 2, 1) := by decide +kernel
theorem dX11_goes_306 : decode cX11_goes 306 = .ok (.if_icmp .ne 25, 3) := by decide +kernel
theorem dX11_goes_309 : decode cX11_goes 309 = .ok (.aload_n 0, 1) := by decide +kernel
theorem dX11_goes_310 : decode cX11_goes 310 = .ok (.iload 8, 2) := by decide +kernel
theorem dX11_goes_312 : decode cX11_goes 312 = .ok (.aload_n 0, 1) := by decide +kernel
theorem dX11_goes_313 : decode cX11_goes 313 = .ok (.getfield 100, 3) := by decide +kernel
theorem dX11_goes_316 : decode cX11_goes 316 = .ok (.aload_n 0, 1) := by decide +kernel
theorem dX11_goes_317 : decode cX11_goes 317 = .ok (.getfield 215, 3) := by decide +kernel
theorem dX11_goes_320 : decode cX11_goes 320 = .ok (.iconst 1, 1) := by decide +kernel
theorem dX11_goes_321 : decode cX11_goes 321 = .ok (.isub, 1) := by decide +kernel
theorem dX11_goes_322 : decode cX11_goes 322 = .ok (.iaload, 1) := by decide +kernel
theorem dX11_goes_323 : decode cX11_goes 323 = .ok (.invokevirtual 277, 3) := by decide +kernel
theorem dX11_goes_326 : decode cX11_goes 326 = .ok (.istore 7, 2) := by decide +kernel
theorem dX11_goes_328 : decode cX11_goes 328 = .ok (.goto 22, 3) := by decide +kernel
theorem dX11_goes_331 : decode cX11_goes 331 = .ok (.aload_n 0, 1) := by decide +kernel
theorem dX11_goes_332 : decode cX11_goes 332 = .ok (.getfield 100, 3) := by decide +kernel
theorem dX11_goes_335 : decode cX11_goes 335 = .ok (.aload_n 0, 1) := by decide +kernel
theorem dX11_goes_336 : decode cX11_goes 336 = .ok (.getfield 215, 3) := by decide +kernel
theorem dX11_goes_339 : decode cX11_goes 339 = .ok (.iconst 1, 1) := by decide +kernel
theorem dX11_goes_340 : decode cX11_goes 340 = .ok (.isub, 1) := by decide +kernel
theorem dX11_goes_341 : decode cX11_goes 341 = .ok (.dup2, 1) := by decide +kernel
theorem dX11_goes_342 : decode cX11_goes 342 = .ok (.iaload, 1) := by decide +kernel
theorem dX11_goes_343 : decode cX11_goes 343 = .ok (.iconst 1, 1) := by decide +kernel
theorem dX11_goes_344 : decode cX11_goes 344 = .ok (.iadd, 1) := by decide +kernel
theorem dX11_goes_345 : decode cX11_goes 345 = .ok (.iastore, 1) := by decide +kernel
theorem dX11_goes_346 : decode cX11_goes 346 = .ok (.bipush (-4), 2) := by decide +kernel
theorem dX11_goes_348 : decode cX11_goes 348 = .ok (.istore 7, 2) := by decide +kernel
theorem dX11_goes_350 : decode cX11_goes 350 = .ok (.goto (-87), 3) := by decide +kernel
theorem dX11_goes_353 : decode cX11_goes 353 = .ok (.goto (-301), 3) := by decide +kernel
theorem dX11_isName_0 : decode cX11_isName 0 = .ok (.iload_n 1, 1) := by decide +kernel
theorem dX11_isName_1 : decode cX11_isName 1 = .ok (.iconst 0, 1) := by decide +kernel
theorem dX11_isName_2 : decode cX11_isName 2 = .ok (.aload_n 0, 1) := by decide +kernel
theorem dX11_isName_3 : decode cX11_isName 3 = .ok (.getfield 123, 3) := by decide +kernel
theorem dX11_isName_6 : decode cX11_isName 6 = .ok (.iconst 1, 1) := by decide +kernel
theorem dX11_isName_7 : decode cX11_isName 7 = .ok (.isub, 1) := by decide +kernel
theorem dX11_isName_8 : decode cX11_isName 8 = .ok (.invokestatic 135, 3) := by decide +kernel
theorem dX11_isName_11 : decode cX11_isName 11 = .ok (.ireturn, 1) := by decide +kernel
theorem dX11_isRule_0 : decode cX11_isRule 0 = .ok (.aload_n 0, 1) := by decide +kernel
theorem dX11_isRule_1 : decode cX11_isRule 1 = .ok (.iload_n 1, 1) := by decide +kernel
theorem dX11_isRule_2 : decode cX11_isRule 2 = .ok (.invokevirtual 280, 3) := by decide +kernel
theorem dX11_isRule_5 : decode cX11_isRule 5 = .ok (.ifCond .eq 23, 3) := by decide +kernel
theorem dX11_isRule_8 : decode cX11_isRule 8 = .ok (.iload_n 2, 1) := by decide +kernel
theorem dX11_isRule_9 : decode cX11_isRule 9 = .ok (.iconst 0, 1) := by decide +kernel
theorem dX11_isRule_10 : decode cX11_isRule 10 = .ok (.aload_n 0, 1) := by decide +kernel
theorem dX11_isRule_11 : decode cX11_isRule 11 = .ok (.getfield 16, 3) := by decide +kernel
theorem dX11_isRule_14 : decode cX11_isRule 14 = .ok (.iload_n 1, 1) := by decide +kernel
theorem dX11_isRule_15 : decode cX11_isRule 15 = .ok (.iaload, 1) := by decide +kernel
theorem dX11_isRule_16 : decode cX11_isRule 16 = .ok (.iconst 1, 1) := by decide +kernel
theorem dX11_isRule_17 : decode cX11_isRule 17 = .ok (.isub, 1) := by decide +kernel
theorem dX11_isRule_18 : decode cX11_isRule 18 = .ok (.invokestatic 135, 3) := by decide +kernel
theorem dX11_isRule_21 : decode cX11_isRule 21 = .ok (.ifCond .eq 7, 3) := by decide +kernel
theorem dX11_isRule_24 : decode cX11_isRule 24 = .ok (.iconst 1, 1) := by decide +kernel
theorem dX11_isRule_25 : decode cX11_isRule 25 = .ok (.goto 4, 3) := by decide +kernel
theorem dX11_isRule_28 : decode cX11_isRule 28 = .ok (.iconst 0, 1) := by decide +kernel
theorem dX11_isRule_29 : decode cX11_isRule 29 = .ok (.ireturn, 1) := by decide +kernel
theorem dX11_check_0 : decode cX11_check 0 = .ok (.aload_n 0, 1) := by decide +kernel
theorem dX11_check_1 : decode cX11_check 1 = .ok (.iload_n 1, 1) := by decide +kernel
theorem dX11_check_2 : decode cX11_check 2 = .ok (.invokevirtual 280, 3) := by decide +kernel
theorem dX11_check_5 : decode cX11_check 5 = .ok (.ifCond .eq 24, 3) := by decide +kernel
theorem dX11_check_8 : decode cX11_check 8 = .ok (.iload_n 2, 1) := by decide +kernel
theorem dX11_check_9 : decode cX11_check 9 = .ok (.iconst 0, 1) := by decide +kernel
theorem dX11_check_10 : decode cX11_check 10 = .ok (.sipush 255, 3) := by decide +kernel
theorem dX11_check_13 : decode cX11_check 13 = .ok (.invokestatic 135, 3) := by decide +kernel
theorem dX11_check_16 : decode cX11_check 16 = .ok (.ifCond .eq 13, 3) := by decide +kernel
theorem dX11_check_19 : decode cX11_check 19 = .ok (.iload_n 3, 1) := by decide +kernel
theorem dX11_check_20 : decode cX11_check 20 = .ok (.iconst 0, 1) := by decide +kernel
theorem dX11_check_21 : decode cX11_check 21 = .ok (.bipush 15, 2) := by decide +kernel
theorem dX11_check_23 : decode cX11_check 23 = .ok (.invokestatic 135, 3) := by decide +kernel
theorem dX11_check_26 : decode cX11_check 26 = .ok (.ifCond .ne 5, 3) := by decide +kernel
theorem dX11_check_29 : decode cX11_check 29 = .ok (.iconst (-1), 1) := by decide +kernel
theorem dX11_check_30 : decode cX11_check 30 = .ok (.ireturn, 1) := by decide +kernel
theorem dX11_check_31 : decode cX11_check 31 = .ok (.aload_n 0, 1) := by decide +kernel
theorem dX11_check_32 : decode cX11_check 32 = .ok (.iload_n 1, 1) := by decide +kernel
theorem dX11_check_33 : decode cX11_check 33 = .ok (.iload_n 2, 1) := by decide +kernel
theorem dX11_check_34 : decode cX11_check 34 = .ok (.iload_n 3, 1) := by decide +kernel
theorem dX11_check_35 : decode cX11_check 35 = .ok (.invokevirtual 283, 3) := by decide +kernel
theorem dX11_check_38 : decode cX11_check 38 = .ok (.istore 4, 2) := by decide +kernel
theorem dX11_check_40 : decode cX11_check 40 = .ok (.iconst 0, 1) := by decide +kernel
theorem dX11_check_41 : decode cX11_check 41 = .ok (.istore 5, 2) := by decide +kernel
theorem dX11_check_43 : decode cX11_check 43 = .ok (.iload 5, 2) := by decide +kernel
theorem dX11_check_45 : decode cX11_check 45 = .ok (.aload_n 0, 1) := by decide +kernel
theorem dX11_check_46 : decode cX11_check 46 = .ok (.getfield 197, 3) := by decide +kernel
theorem dX11_check_49 : decode cX11_check 49 = .ok (.if_icmp .ge 55, 3) := by decide +kernel
theorem dX11_check_52 : decode cX11_check 52 = .ok (.aload_n 0, 1) := by decide +kernel
theorem dX11_check_53 : decode cX11_check 53 = .ok (.getfield 94, 3) := by decide +kernel
theorem dX11_check_56 : decode cX11_check 56 = .ok (.bipush 8, 2) := by decide +kernel
theorem dX11_check_58 : decode cX11_check 58 = .ok (.iload 5, 2) := by decide +kernel
theorem dX11_check_60 : decode cX11_check 60 = .ok (.imul, 1) := by decide +kernel
theorem dX11_check_61 : decode cX11_check 61 = .ok (.iaload, 1) := by decide +kernel
theorem dX11_check_62 : decode cX11_check 62 = .ok (.iload_n 1, 1) := by decide +kernel
theorem dX11_check_63 : decode cX11_check 63 = .ok (.if_icmp .ne 35, 3) := by decide +kernel
theorem dX11_check_66 : decode cX11_check 66 = .ok (.aload_n 0, 1) := by decide +kernel
theorem dX11_check_67 : decode cX11_check 67 = .ok (.getfield 94, 3) := by decide +kernel
theorem dX11_check_70 : decode cX11_check 70 = .ok (.bipush 8, 2) := by decide +kernel
theorem dX11_check_72 : decode cX11_check 72 = .ok (.iload 5, 2) := by decide +kernel
theorem dX11_check_74 : decode cX11_check 74 = .ok (.imul, 1) := by decide +kernel
theorem dX11_check_75 : decode cX11_check 75 = .ok (.iconst 1, 1) := by decide +kernel
theorem dX11_check_76 : decode cX11_check 76 = .ok (.iadd, 1) := by decide +kernel
theorem dX11_check_77 : decode cX11_check 77 = .ok (.iaload, 1) := by decide +kernel
theorem dX11_check_78 : decode cX11_check 78 = .ok (.iload_n 2, 1) := by decide +kernel
theorem dX11_check_79 : decode cX11_check 79 = .ok (.if_icmp .ne 19, 3) := by decide +kernel
theorem dX11_check_82 : decode cX11_check 82 = .ok (.aload_n 0, 1) := by decide +kernel
theorem dX11_check_83 : decode cX11_check 83 = .ok (.getfield 94, 3) := by decide +kernel
theorem dX11_check_86 : decode cX11_check 86 = .ok (.bipush 8, 2) := by decide +kernel
theorem dX11_check_88 : decode cX11_check 88 = .ok (.iload 5, 2) := by decide +kernel
theorem dX11_check_90 : decode cX11_check 90 = .ok (.imul, 1) := by decide +kernel
theorem dX11_check_91 : decode cX11_check 91 = .ok (.iconst 2, 1) := by decide +kernel
theorem dX11_check_92 : decode cX11_check 92 = .ok (.iadd, 1) := by decide +kernel
theorem dX11_check_93 : decode cX11_check 93 = .ok (.iaload, 1) := by decide +kernel
theorem dX11_check_94 : decode cX11_check 94 = .ok (.iload_n 3, 1) := by decide +kernel
theorem dX11_check_95 : decode cX11_check 95 = .ok (.if_icmp .eq 9, 3) := by decide +kernel
theorem dX11_check_98 : decode cX11_check 98 = .ok (.iinc 5 1, 3) := by decide +kernel
theorem dX11_check_101 : decode cX11_check 101 = .ok (.goto (-58), 3) := by decide +kernel
theorem dX11_check_104 : decode cX11_check 104 = .ok (.iload 5, 2) := by decide +kernel
theorem dX11_check_106 : decode cX11_check 106 = .ok (.aload_n 0, 1) := by decide +kernel
theorem dX11_check_107 : decode cX11_check 107 = .ok (.getfield 197, 3) := by decide +kernel
theorem dX11_check_110 : decode cX11_check 110 = .ok (.if_icmp .ge 8, 3) := by decide +kernel
theorem dX11_check_113 : decode cX11_check 113 = .ok (.iload 5, 2) := by decide +kernel
theorem dX11_check_115 : decode cX11_check 115 = .ok (.goto 19, 3) := by decide +kernel
theorem dX11_check_118 : decode cX11_check 118 = .ok (.aload_n 0, 1) := by decide +kernel
theorem dX11_check_119 : decode cX11_check 119 = .ok (.getfield 197, 3) := by decide +kernel
theorem dX11_check_122 : decode cX11_check 122 = .ok (.iconst 4, 1) := by decide +kernel
theorem dX11_check_123 : decode cX11_check 123 = .ok (.if_icmp .ge 10, 3) := by decide +kernel
theorem dX11_check_126 : decode cX11_check 126 = .ok (.aload_n 0, 1) := by decide +kernel
theorem dX11_check_127 : decode cX11_check 127 = .ok (.getfield 197, 3) := by decide +kernel
theorem dX11_check_130 : decode cX11_check 130 = .ok (.goto 4, 3) := by decide +kernel
theorem dX11_check_133 : decode cX11_check 133 = .ok (.iconst 3, 1) := by decide +kernel
theorem dX11_check_134 : decode cX11_check 134 = .ok (.istore 6, 2) := by decide +kernel
theorem dX11_check_136 : decode cX11_check 136 = .ok (.aload_n 0, 1) := by decide +kernel
theorem dX11_check_137 : decode cX11_check 137 = .ok (.iload 5, 2) := by decide +kernel
theorem dX11_check_139 : decode cX11_check 139 = .ok (.aload_n 0, 1) := by decide +kernel
theorem dX11_check_140 : decode cX11_check 140 = .ok (.getfield 197, 3) := by decide +kernel
theorem dX11_check_143 : decode cX11_check 143 = .ok (.if_icmp .lt 11, 3) := by decide +kernel
theorem dX11_check_146 : decode cX11_check 146 = .ok (.aload_n 0, 1) := by decide +kernel
theorem dX11_check_147 : decode cX11_check 147 = .ok (.getfield 197, 3) := by decide +kernel
theorem dX11_check_150 : decode cX11_check 150 = .ok (.iconst 4, 1) := by decide +kernel
theorem dX11_check_151 : decode cX11_check 151 = .ok (.if_icmp .ne 10, 3) := by decide +kernel
theorem dX11_check_154 : decode cX11_check 154 = .ok (.aload_n 0, 1) := by decide +kernel
theorem dX11_check_155 : decode cX11_check 155 = .ok (.getfield 197, 3) := by decide +kernel
theorem dX11_check_158 : decode cX11_check 158 = .ok (.goto 9, 3) := by decide +kernel
theorem dX11_check_161 : decode cX11_check 161 = .ok (.aload_n 0, 1) := by decide +kernel
theorem dX11_check_162 : decode cX11_check 162 = .ok (.getfield 197, 3) := by decide +kernel
theorem dX11_check_165 : decode cX11_check 165 = .ok (.iconst 1, 1) := by decide +kernel
theorem dX11_check_166 : decode cX11_check 166 = .ok (.iadd, 1) := by decide +kernel
theorem dX11_check_167 : decode cX11_check 167 = .ok (.putfield 197, 3) := by decide +kernel
theorem dX11_check_170 : decode cX11_check 170 = .ok (.bipush 8, 2) := by decide +kernel
theorem dX11_check_172 : decode cX11_check 172 = .ok (.iload 6, 2) := by decide +kernel
theorem dX11_check_174 : decode cX11_check 174 = .ok (.imul, 1) := by decide +kernel
theorem dX11_check_175 : decode cX11_check 175 = .ok (.iconst 1, 1) := by decide +kernel
theorem dX11_check_176 : decode cX11_check 176 = .ok (.isub, 1) := by decide +kernel
theorem dX11_check_177 : decode cX11_check 177 = .ok (.istore 7, 2) := by decide +kernel
theorem dX11_check_179 : decode cX11_check 179 = .ok (.iload 7, 2) := by decide +kernel
theorem dX11_check_181 : decode cX11_check 181 = .ok (.ifCond .lt 26, 3) := by decide +kernel
theorem dX11_check_184 : decode cX11_check 184 = .ok (.aload_n 0, 1) := by decide +kernel
theorem dX11_check_185 : decode cX11_check 185 = .ok (.getfield 94, 3) := by decide +kernel
theorem dX11_check_188 : decode cX11_check 188 = .ok (.iload 7, 2) := by decide +kernel
theorem dX11_check_190 : decode cX11_check 190 = .ok (.bipush 8, 2) := by decide +kernel
theorem dX11_check_192 : decode cX11_check 192 = .ok (.iadd, 1) := by decide +kernel
theorem dX11_check_193 : decode cX11_check 193 = .ok (.aload_n 0, 1) := by decide +kernel
theorem dX11_check_194 : decode cX11_check 194 = .ok (.getfield 94, 3) := by decide +kernel
theorem dX11_check_197 : decode cX11_check 197 = .ok (.iload 7, 2) := by decide +kernel
theorem dX11_check_199 : decode cX11_check 199 = .ok (.iaload, 1) := by decide +kernel
theorem dX11_check_200 : decode cX11_check 200 = .ok (.iastore, 1) := by decide +kernel
theorem dX11_check_201 : decode cX11_check 201 = .ok (.iinc 7 (-1), 3) := by decide +kernel
theorem dX11_check_204 : decode cX11_check 204 = .ok (.goto (-25), 3) := by decide +kernel
theorem dX11_check_207 : decode cX11_check 207 = .ok (.aload_n 0, 1) := by decide +kernel
theorem dX11_check_208 : decode cX11_check 208 = .ok (.getfield 94, 3) := by decide +kernel
theorem dX11_check_211 : decode cX11_check 211 = .ok (.iconst 0, 1) := by decide +kernel
theorem dX11_check_212 : decode cX11_check 212 = .ok (.iload_n 1, 1) := by decide +kernel
theorem dX11_check_213 : decode cX11_check 213 = .ok (.iastore, 1) := by decide +kernel
theorem dX11_check_214 : decode cX11_check 214 = .ok (.aload_n 0, 1) := by decide +kernel
theorem dX11_check_215 : decode cX11_check 215 = .ok (.getfield 94, 3) := by decide +kernel
theorem dX11_check_218 : decode cX11_check 218 = .ok (.iconst 1, 1) := by decide +kernel
theorem dX11_check_219 : decode cX11_check 219 = .ok (.iload_n 2, 1) := by decide +kernel
theorem dX11_check_220 : decode cX11_check 220 = .ok (.iastore, 1) := by decide +kernel
theorem dX11_check_221 : decode cX11_check 221 = .ok (.aload_n 0, 1) := by decide +kernel
theorem dX11_check_222 : decode cX11_check 222 = .ok (.getfield 94, 3) := by decide +kernel
theorem dX11_check_225 : decode cX11_check 225 = .ok (.iconst 2, 1) := by decide +kernel
theorem dX11_check_226 : decode cX11_check 226 = .ok (.iload_n 3, 1) := by decide +kernel
theorem dX11_check_227 : decode cX11_check 227 = .ok (.iastore, 1) := by decide +kernel
theorem dX11_check_228 : decode cX11_check 228 = .ok (.aload_n 0, 1) := by decide +kernel
theorem dX11_check_229 : decode cX11_check 229 = .ok (.getfield 94, 3) := by decide +kernel
theorem dX11_check_232 : decode cX11_check 232 = .ok (.iconst 3, 1) := by decide +kernel
theorem dX11_check_233 : decode cX11_check 233 = .ok (.iload 4, 2) := by decide +kernel
theorem dX11_check_235 : decode cX11_check 235 = .ok (.iastore, 1) := by decide +kernel
theorem dX11_check_236 : decode cX11_check 236 = .ok (.aload_n 0, 1) := by decide +kernel
theorem dX11_check_237 : decode cX11_check 237 = .ok (.getfield 94, 3) := by decide +kernel
theorem dX11_check_240 : decode cX11_check 240 = .ok (.iconst 4, 1) := by decide +kernel
theorem dX11_check_241 : decode cX11_check 241 = .ok (.aload_n 0, 1) := by decide +kernel
theorem dX11_check_242 : decode cX11_check 242 = .ok (.getfield 200, 3) := by decide +kernel
theorem dX11_check_245 : decode cX11_check 245 = .ok (.iastore, 1) := by decide +kernel
theorem dX11_check_246 : decode cX11_check 246 = .ok (.aload_n 0, 1) := by decide +kernel
theorem dX11_check_247 : decode cX11_check 247 = .ok (.getfield 94, 3) := by decide +kernel
theorem dX11_check_250 : decode cX11_check 250 = .ok (.iconst 5, 1) := by decide +kernel
theorem dX11_check_251 : decode cX11_check 251 = .ok (.aload_n 0, 1) := by decide +kernel
theorem dX11_check_252 : decode cX11_check 252 = .ok (.getfield 203, 3) := by decide +kernel
theorem dX11_check_255 : decode cX11_check 255 = .ok (.iastore, 1) := by decide +kernel
theorem dX11_check_256 : decode cX11_check 256 = .ok (.aload_n 0, 1) := by decide +kernel
theorem dX11_check_257 : decode cX11_check 257 = .ok (.getfield 94, 3) := by decide +kernel
theorem dX11_check_260 : decode cX11_check 260 = .ok (.bipush 6, 2) := by decide +kernel
theorem dX11_check_262 : decode cX11_check 262 = .ok (.aload_n 0, 1) := by decide +kernel
theorem dX11_check_263 : decode cX11_check 263 = .ok (.getfield 253, 3) := by decide +kernel
theorem dX11_check_266 : decode cX11_check 266 = .ok (.iastore, 1) := by decide +kernel
theorem dX11_check_267 : decode cX11_check 267 = .ok (.aload_n 0, 1) := by decide +kernel
theorem dX11_check_268 : decode cX11_check 268 = .ok (.getfield 94, 3) := by decide +kernel
theorem dX11_check_271 : decode cX11_check 271 = .ok (.bipush 7, 2) := by decide +kernel
theorem dX11_check_273 : decode cX11_check 273 = .ok (.aload_n 0, 1) := by decide +kernel
theorem dX11_check_274 : decode cX11_check 274 = .ok (.getfield 256, 3) := by decide +kernel
theorem dX11_check_277 : decode cX11_check 277 = .ok (.iastore, 1) := by decide +kernel
theorem dX11_check_278 : decode cX11_check 278 = .ok (.iload 4, 2) := by decide +kernel
theorem dX11_check_280 : decode cX11_check 280 = .ok (.ireturn, 1) := by decide +kernel
theorem dX11_kept_0 : decode cX11_kept 0 = .ok (.iload_n 1, 1) := by decide +kernel
theorem dX11_kept_1 : decode cX11_kept 1 = .ok (.ifCond .lt 13, 3) := by decide +kernel
theorem dX11_kept_4 : decode cX11_kept 4 = .ok (.iload_n 2, 1) := by decide +kernel
theorem dX11_kept_5 : decode cX11_kept 5 = .ok (.iconst 0, 1) := by decide +kernel
theorem dX11_kept_6 : decode cX11_kept 6 = .ok (.bipush 7, 2) := by decide +kernel
theorem dX11_kept_8 : decode cX11_kept 8 = .ok (.invokestatic 135, 3) := by decide +kernel
theorem dX11_kept_11 : decode cX11_kept 11 = .ok (.ifCond .ne 5, 3) := by decide +kernel
theorem dX11_kept_14 : decode cX11_kept 14 = .ok (.iconst (-1), 1) := by decide +kernel
theorem dX11_kept_15 : decode cX11_kept 15 = .ok (.ireturn, 1) := by decide +kernel
theorem dX11_kept_16 : decode cX11_kept 16 = .ok (.iload_n 1, 1) := by decide +kernel
theorem dX11_kept_17 : decode cX11_kept 17 = .ok (.aload_n 0, 1) := by decide +kernel
theorem dX11_kept_18 : decode cX11_kept 18 = .ok (.getfield 197, 3) := by decide +kernel
theorem dX11_kept_21 : decode cX11_kept 21 = .ok (.if_icmp .ge 17, 3) := by decide +kernel
theorem dX11_kept_24 : decode cX11_kept 24 = .ok (.aload_n 0, 1) := by decide +kernel
theorem dX11_kept_25 : decode cX11_kept 25 = .ok (.getfield 94, 3) := by decide +kernel
theorem dX11_kept_28 : decode cX11_kept 28 = .ok (.bipush 8, 2) := by decide +kernel
theorem dX11_kept_30 : decode cX11_kept 30 = .ok (.iload_n 1, 1) := by decide +kernel
theorem dX11_kept_31 : decode cX11_kept 31 = .ok (.imul, 1) := by decide +kernel
theorem dX11_kept_32 : decode cX11_kept 32 = .ok (.iload_n 2, 1) := by decide +kernel
theorem dX11_kept_33 : decode cX11_kept 33 = .ok (.iadd, 1) := by decide +kernel
theorem dX11_kept_34 : decode cX11_kept 34 = .ok (.iaload, 1) := by decide +kernel
theorem dX11_kept_35 : decode cX11_kept 35 = .ok (.goto 5, 3) := by decide +kernel
theorem dX11_kept_38 : decode cX11_kept 38 = .ok (.bipush (-4), 2) := by decide +kernel
theorem dX11_kept_40 : decode cX11_kept 40 = .ok (.ireturn, 1) := by decide +kernel
theorem dX11_keeps_0 : decode cX11_keeps 0 = .ok (.aload_n 0, 1) := by decide +kernel
theorem dX11_keeps_1 : decode cX11_keeps 1 = .ok (.getfield 194, 3) := by decide +kernel
theorem dX11_keeps_4 : decode cX11_keeps 4 = .ok (.iconst 4, 1) := by decide +kernel
theorem dX11_keeps_5 : decode cX11_keeps 5 = .ok (.if_icmp .ne 44, 3) := by decide +kernel
theorem dX11_keeps_8 : decode cX11_keeps 8 = .ok (.iconst 0, 1) := by decide +kernel
theorem dX11_keeps_9 : decode cX11_keeps 9 = .ok (.istore_n 1, 1) := by decide +kernel
theorem dX11_keeps_10 : decode cX11_keeps 10 = .ok (.iload_n 1, 1) := by decide +kernel
theorem dX11_keeps_11 : decode cX11_keeps 11 = .ok (.sipush 756, 3) := by decide +kernel
theorem dX11_keeps_14 : decode cX11_keeps 14 = .ok (.if_icmp .ge 25, 3) := by decide +kernel
theorem dX11_keeps_17 : decode cX11_keeps 17 = .ok (.aload_n 0, 1) := by decide +kernel
theorem dX11_keeps_18 : decode cX11_keeps 18 = .ok (.getfield 49, 3) := by decide +kernel
theorem dX11_keeps_21 : decode cX11_keeps 21 = .ok (.iload_n 1, 1) := by decide +kernel
theorem dX11_keeps_22 : decode cX11_keeps 22 = .ok (.aload_n 0, 1) := by decide +kernel
theorem dX11_keeps_23 : decode cX11_keeps 23 = .ok (.getfield 49, 3) := by decide +kernel
theorem dX11_keeps_26 : decode cX11_keeps 26 = .ok (.iload_n 1, 1) := by decide +kernel
theorem dX11_keeps_27 : decode cX11_keeps 27 = .ok (.sipush 252, 3) := by decide +kernel
theorem dX11_keeps_30 : decode cX11_keeps 30 = .ok (.iadd, 1) := by decide +kernel
theorem dX11_keeps_31 : decode cX11_keeps 31 = .ok (.iaload, 1) := by decide +kernel
theorem dX11_keeps_32 : decode cX11_keeps 32 = .ok (.iastore, 1) := by decide +kernel
theorem dX11_keeps_33 : decode cX11_keeps 33 = .ok (.iinc 1 1, 3) := by decide +kernel
theorem dX11_keeps_36 : decode cX11_keeps 36 = .ok (.goto (-26), 3) := by decide +kernel
theorem dX11_keeps_39 : decode cX11_keeps 39 = .ok (.aload_n 0, 1) := by decide +kernel
theorem dX11_keeps_40 : decode cX11_keeps 40 = .ok (.dup, 1) := by decide +kernel
theorem dX11_keeps_41 : decode cX11_keeps 41 = .ok (.getfield 194, 3) := by decide +kernel
theorem dX11_keeps_44 : decode cX11_keeps 44 = .ok (.iconst 1, 1) := by decide +kernel
theorem dX11_keeps_45 : decode cX11_keeps 45 = .ok (.isub, 1) := by decide +kernel
theorem dX11_keeps_46 : decode cX11_keeps 46 = .ok (.putfield 194, 3) := by decide +kernel
theorem dX11_keeps_49 : decode cX11_keeps 49 = .ok (.iconst 0, 1) := by decide +kernel
theorem dX11_keeps_50 : decode cX11_keeps 50 = .ok (.istore_n 1, 1) := by decide +kernel
theorem dX11_keeps_51 : decode cX11_keeps 51 = .ok (.iload_n 1, 1) := by decide +kernel
theorem dX11_keeps_52 : decode cX11_keeps 52 = .ok (.sipush 252, 3) := by decide +kernel
theorem dX11_keeps_55 : decode cX11_keeps 55 = .ok (.if_icmp .ge 30, 3) := by decide +kernel
theorem dX11_keeps_58 : decode cX11_keeps 58 = .ok (.aload_n 0, 1) := by decide +kernel
theorem dX11_keeps_59 : decode cX11_keeps 59 = .ok (.getfield 49, 3) := by decide +kernel
theorem dX11_keeps_62 : decode cX11_keeps 62 = .ok (.sipush 252, 3) := by decide +kernel
theorem dX11_keeps_65 : decode cX11_keeps 65 = .ok (.aload_n 0, 1) := by decide +kernel
theorem dX11_keeps_66 : decode cX11_keeps 66 = .ok (.getfield 194, 3) := by decide +kernel
theorem dX11_keeps_69 : decode cX11_keeps 69 = .ok (.imul, 1) := by decide +kernel
theorem dX11_keeps_70 : decode cX11_keeps 70 = .ok (.iload_n 1, 1) := by decide +kernel
theorem dX11_keeps_71 : decode cX11_keeps 71 = .ok (.iadd, 1) := by decide +kernel
theorem dX11_keeps_72 : decode cX11_keeps 72 = .ok (.aload_n 0, 1) := by decide +kernel
theorem dX11_keeps_73 : decode cX11_keeps 73 = .ok (.getfield 46, 3) := by decide +kernel
theorem dX11_keeps_76 : decode cX11_keeps 76 = .ok (.iload_n 1, 1) := by decide +kernel
theorem dX11_keeps_77 : decode cX11_keeps 77 = .ok (.iaload, 1) := by decide +kernel
theorem dX11_keeps_78 : decode cX11_keeps 78 = .ok (.iastore, 1) := by decide +kernel
theorem dX11_keeps_79 : decode cX11_keeps 79 = .ok (.iinc 1 1, 3) := by decide +kernel
theorem dX11_keeps_82 : decode cX11_keeps 82 = .ok (.goto (-31), 3) := by decide +kernel
theorem dX11_keeps_85 : decode cX11_keeps 85 = .ok (.aload_n 0, 1) := by decide +kernel
theorem dX11_keeps_86 : decode cX11_keeps 86 = .ok (.dup, 1) := by decide +kernel
theorem dX11_keeps_87 : decode cX11_keeps 87 = .ok (.getfield 194, 3) := by decide +kernel
theorem dX11_keeps_90 : decode cX11_keeps 90 = .ok (.iconst 1, 1) := by decide +kernel
theorem dX11_keeps_91 : decode cX11_keeps 91 = .ok (.iadd, 1) := by decide +kernel
theorem dX11_keeps_92 : decode cX11_keeps 92 = .ok (.putfield 194, 3) := by decide +kernel
theorem dX11_keeps_95 : decode cX11_keeps 95 = .ok (.aload_n 0, 1) := by decide +kernel
theorem dX11_keeps_96 : decode cX11_keeps 96 = .ok (.iconst 0, 1) := by decide +kernel
theorem dX11_keeps_97 : decode cX11_keeps 97 = .ok (.putfield 197, 3) := by decide +kernel
theorem dX11_keeps_100 : decode cX11_keeps 100 = .ok (.return_, 1) := by decide +kernel
theorem dX11_undo_0 : decode cX11_undo 0 = .ok (.aload_n 0, 1) := by decide +kernel
theorem dX11_undo_1 : decode cX11_undo 1 = .ok (.getfield 194, 3) := by decide +kernel
theorem dX11_undo_4 : decode cX11_undo 4 = .ok (.ifCond .ne 6, 3) := by decide +kernel
theorem dX11_undo_7 : decode cX11_undo 7 = .ok (.bipush (-2), 2) := by decide +kernel
theorem dX11_undo_9 : decode cX11_undo 9 = .ok (.ireturn, 1) := by decide +kernel
theorem dX11_undo_10 : decode cX11_undo 10 = .ok (.aload_n 0, 1) := by decide +kernel
theorem dX11_undo_11 : decode cX11_undo 11 = .ok (.dup, 1) := by decide +kernel
theorem dX11_undo_12 : decode cX11_undo 12 = .ok (.getfield 194, 3) := by decide +kernel
theorem dX11_undo_15 : decode cX11_undo 15 = .ok (.iconst 1, 1) := by decide +kernel
theorem dX11_undo_16 : decode cX11_undo 16 = .ok (.isub, 1) := by decide +kernel
theorem dX11_undo_17 : decode cX11_undo 17 = .ok (.putfield 194, 3) := by decide +kernel
theorem dX11_undo_20 : decode cX11_undo 20 = .ok (.iconst 0, 1) := by decide +kernel
theorem dX11_undo_21 : decode cX11_undo 21 = .ok (.istore_n 1, 1) := by decide +kernel
theorem dX11_undo_22 : decode cX11_undo 22 = .ok (.iload_n 1, 1) := by decide +kernel
theorem dX11_undo_23 : decode cX11_undo 23 = .ok (.sipush 252, 3) := by decide +kernel
theorem dX11_undo_26 : decode cX11_undo 26 = .ok (.if_icmp .ge 30, 3) := by decide +kernel
theorem dX11_undo_29 : decode cX11_undo 29 = .ok (.aload_n 0, 1) := by decide +kernel
theorem dX11_undo_30 : decode cX11_undo 30 = .ok (.getfield 46, 3) := by decide +kernel
theorem dX11_undo_33 : decode cX11_undo 33 = .ok (.iload_n 1, 1) := by decide +kernel
theorem dX11_undo_34 : decode cX11_undo 34 = .ok (.aload_n 0, 1) := by decide +kernel
theorem dX11_undo_35 : decode cX11_undo 35 = .ok (.getfield 49, 3) := by decide +kernel
theorem dX11_undo_38 : decode cX11_undo 38 = .ok (.sipush 252, 3) := by decide +kernel
theorem dX11_undo_41 : decode cX11_undo 41 = .ok (.aload_n 0, 1) := by decide +kernel
theorem dX11_undo_42 : decode cX11_undo 42 = .ok (.getfield 194, 3) := by decide +kernel
theorem dX11_undo_45 : decode cX11_undo 45 = .ok (.imul, 1) := by decide +kernel
theorem dX11_undo_46 : decode cX11_undo 46 = .ok (.iload_n 1, 1) := by decide +kernel
theorem dX11_undo_47 : decode cX11_undo 47 = .ok (.iadd, 1) := by decide +kernel
theorem dX11_undo_48 : decode cX11_undo 48 = .ok (.iaload, 1) := by decide +kernel
theorem dX11_undo_49 : decode cX11_undo 49 = .ok (.iastore, 1) := by decide +kernel
theorem dX11_undo_50 : decode cX11_undo 50 = .ok (.iinc 1 1, 3) := by decide +kernel
theorem dX11_undo_53 : decode cX11_undo 53 = .ok (.goto (-31), 3) := by decide +kernel
theorem dX11_undo_56 : decode cX11_undo 56 = .ok (.aload_n 0, 1) := by decide +kernel
theorem dX11_undo_57 : decode cX11_undo 57 = .ok (.iconst 0, 1) := by decide +kernel
theorem dX11_undo_58 : decode cX11_undo 58 = .ok (.putfield 197, 3) := by decide +kernel
theorem dX11_undo_61 : decode cX11_undo 61 = .ok (.aload_n 0, 1) := by decide +kernel
theorem dX11_undo_62 : decode cX11_undo 62 = .ok (.getfield 194, 3) := by decide +kernel
theorem dX11_undo_65 : decode cX11_undo 65 = .ok (.ireturn, 1) := by decide +kernel
theorem dX11_sign_0 : decode cX11_sign 0 = .ok (.aload_n 0, 1) := by decide +kernel
theorem dX11_sign_1 : decode cX11_sign 1 = .ok (.iload_n 1, 1) := by decide +kernel
theorem dX11_sign_2 : decode cX11_sign 2 = .ok (.iload_n 2, 1) := by decide +kernel
theorem dX11_sign_3 : decode cX11_sign 3 = .ok (.invokevirtual 287, 3) := by decide +kernel
theorem dX11_sign_6 : decode cX11_sign 6 = .ok (.ifCond .eq 12, 3) := by decide +kernel
theorem dX11_sign_9 : decode cX11_sign 9 = .ok (.iload_n 3, 1) := by decide +kernel
theorem dX11_sign_10 : decode cX11_sign 10 = .ok (.iconst 0, 1) := by decide +kernel
theorem dX11_sign_11 : decode cX11_sign 11 = .ok (.iconst 3, 1) := by decide +kernel
theorem dX11_sign_12 : decode cX11_sign 12 = .ok (.invokestatic 135, 3) := by decide +kernel
theorem dX11_sign_15 : decode cX11_sign 15 = .ok (.ifCond .ne 5, 3) := by decide +kernel
theorem dX11_sign_18 : decode cX11_sign 18 = .ok (.iconst (-1), 1) := by decide +kernel
theorem dX11_sign_19 : decode cX11_sign 19 = .ok (.ireturn, 1) := by decide +kernel
theorem dX11_sign_20 : decode cX11_sign 20 = .ok (.aload_n 0, 1) := by decide +kernel
theorem dX11_sign_21 : decode cX11_sign 21 = .ok (.iload_n 1, 1) := by decide +kernel
theorem dX11_sign_22 : decode cX11_sign 22 = .ok (.iload_n 2, 1) := by decide +kernel
theorem dX11_sign_23 : decode cX11_sign 23 = .ok (.invokevirtual 259, 3) := by decide +kernel
theorem dX11_sign_26 : decode cX11_sign 26 = .ok (.istore 4, 2) := by decide +kernel
theorem dX11_sign_28 : decode cX11_sign 28 = .ok (.iload 4, 2) := by decide +kernel
theorem dX11_sign_30 : decode cX11_sign 30 = .ok (.iload_n 3, 1) := by decide +kernel
theorem dX11_sign_31 : decode cX11_sign 31 = .ok (.if_icmp .ne 6, 3) := by decide +kernel
theorem dX11_sign_34 : decode cX11_sign 34 = .ok (.bipush (-2), 2) := by decide +kernel
theorem dX11_sign_36 : decode cX11_sign 36 = .ok (.ireturn, 1) := by decide +kernel
theorem dX11_sign_37 : decode cX11_sign 37 = .ok (.aload_n 0, 1) := by decide +kernel
theorem dX11_sign_38 : decode cX11_sign 38 = .ok (.invokevirtual 290, 3) := by decide +kernel
theorem dX11_sign_41 : decode cX11_sign 41 = .ok (.aload_n 0, 1) := by decide +kernel
theorem dX11_sign_42 : decode cX11_sign 42 = .ok (.getfield 46, 3) := by decide +kernel
theorem dX11_sign_45 : decode cX11_sign 45 = .ok (.bipush 21, 2) := by decide +kernel
theorem dX11_sign_47 : decode cX11_sign 47 = .ok (.iload_n 1, 1) := by decide +kernel
theorem dX11_sign_48 : decode cX11_sign 48 = .ok (.imul, 1) := by decide +kernel
theorem dX11_sign_49 : decode cX11_sign 49 = .ok (.bipush 8, 2) := by decide +kernel
theorem dX11_sign_51 : decode cX11_sign 51 = .ok (.iadd, 1) := by decide +kernel
theorem dX11_sign_52 : decode cX11_sign 52 = .ok (.aload_n 0, 1) := by decide +kernel
theorem dX11_sign_53 : decode cX11_sign 53 = .ok (.getfield 46, 3) := by decide +kernel
theorem dX11_sign_56 : decode cX11_sign 56 = .ok (.bipush 21, 2) := by decide +kernel
theorem dX11_sign_58 : decode cX11_sign 58 = .ok (.iload_n 1, 1) := by decide +kernel
theorem dX11_sign_59 : decode cX11_sign 59 = .ok (.imul, 1) := by decide +kernel
theorem dX11_sign_60 : decode cX11_sign 60 = .ok (.iload_n 2, 1) := by decide +kernel
theorem dX11_sign_61 : decode cX11_sign 61 = .ok (.iadd, 1) := by decide +kernel
theorem dX11_sign_62 : decode cX11_sign 62 = .ok (.iaload, 1) := by decide +kernel
theorem dX11_sign_63 : decode cX11_sign 63 = .ok (.iadd, 1) := by decide +kernel
theorem dX11_sign_64 : decode cX11_sign 64 = .ok (.iload_n 3, 1) := by decide +kernel
theorem dX11_sign_65 : decode cX11_sign 65 = .ok (.iastore, 1) := by decide +kernel
theorem dX11_sign_66 : decode cX11_sign 66 = .ok (.iload 4, 2) := by decide +kernel
theorem dX11_sign_68 : decode cX11_sign 68 = .ok (.ireturn, 1) := by decide +kernel
theorem dX11_swap_0 : decode cX11_swap 0 = .ok (.aload_n 0, 1) := by decide +kernel
theorem dX11_swap_1 : decode cX11_swap 1 = .ok (.iload_n 1, 1) := by decide +kernel
theorem dX11_swap_2 : decode cX11_swap 2 = .ok (.iload_n 2, 1) := by decide +kernel
theorem dX11_swap_3 : decode cX11_swap 3 = .ok (.invokevirtual 287, 3) := by decide +kernel
theorem dX11_swap_6 : decode cX11_swap 6 = .ok (.ifCond .ne 5, 3) := by decide +kernel
theorem dX11_swap_9 : decode cX11_swap 9 = .ok (.iconst (-1), 1) := by decide +kernel
theorem dX11_swap_10 : decode cX11_swap 10 = .ok (.ireturn, 1) := by decide +kernel
theorem dX11_swap_11 : decode cX11_swap 11 = .ok (.iload_n 2, 1) := by decide +kernel
theorem dX11_swap_12 : decode cX11_swap 12 = .ok (.iconst 1, 1) := by decide +kernel
theorem dX11_swap_13 : decode cX11_swap 13 = .ok (.iadd, 1) := by decide +kernel
theorem dX11_swap_14 : decode cX11_swap 14 = .ok (.aload_n 0, 1) := by decide +kernel
theorem dX11_swap_15 : decode cX11_swap 15 = .ok (.getfield 16, 3) := by decide +kernel
theorem dX11_swap_18 : decode cX11_swap 18 = .ok (.iload_n 1, 1) := by decide +kernel
theorem dX11_swap_19 : decode cX11_swap 19 = .ok (.iaload, 1) := by decide +kernel
theorem dX11_swap_20 : decode cX11_swap 20 = .ok (.if_icmp .ne 6, 3) := by decide +kernel
theorem dX11_swap_23 : decode cX11_swap 23 = .ok (.bipush (-2), 2) := by decide +kernel
theorem dX11_swap_25 : decode cX11_swap 25 = .ok (.ireturn, 1) := by decide +kernel
theorem dX11_swap_26 : decode cX11_swap 26 = .ok (.aload_n 0, 1) := by decide +kernel
theorem dX11_swap_27 : decode cX11_swap 27 = .ok (.invokevirtual 290, 3) := by decide +kernel
theorem dX11_swap_30 : decode cX11_swap 30 = .ok (.aload_n 0, 1) := by decide +kernel
theorem dX11_swap_31 : decode cX11_swap 31 = .ok (.getfield 46, 3) := by decide +kernel
theorem dX11_swap_34 : decode cX11_swap 34 = .ok (.bipush 21, 2) := by decide +kernel
theorem dX11_swap_36 : decode cX11_swap 36 = .ok (.iload_n 1, 1) := by decide +kernel
theorem dX11_swap_37 : decode cX11_swap 37 = .ok (.imul, 1) := by decide +kernel
theorem dX11_swap_38 : decode cX11_swap 38 = .ok (.iload_n 2, 1) := by decide +kernel
theorem dX11_swap_39 : decode cX11_swap 39 = .ok (.iadd, 1) := by decide +kernel
theorem dX11_swap_40 : decode cX11_swap 40 = .ok (.iaload, 1) := by decide +kernel
theorem dX11_swap_41 : decode cX11_swap 41 = .ok (.istore_n 3, 1) := by decide +kernel
theorem dX11_swap_42 : decode cX11_swap 42 = .ok (.aload_n 0, 1) := by decide +kernel
theorem dX11_swap_43 : decode cX11_swap 43 = .ok (.getfield 46, 3) := by decide +kernel
theorem dX11_swap_46 : decode cX11_swap 46 = .ok (.bipush 21, 2) := by decide +kernel
theorem dX11_swap_48 : decode cX11_swap 48 = .ok (.iload_n 1, 1) := by decide +kernel
theorem dX11_swap_49 : decode cX11_swap 49 = .ok (.imul, 1) := by decide +kernel
theorem dX11_swap_50 : decode cX11_swap 50 = .ok (.iload_n 2, 1) := by decide +kernel
theorem dX11_swap_51 : decode cX11_swap 51 = .ok (.iadd, 1) := by decide +kernel
theorem dX11_swap_52 : decode cX11_swap 52 = .ok (.aload_n 0, 1) := by decide +kernel
theorem dX11_swap_53 : decode cX11_swap 53 = .ok (.getfield 46, 3) := by decide +kernel
theorem dX11_swap_56 : decode cX11_swap 56 = .ok (.bipush 21, 2) := by decide +kernel
theorem dX11_swap_58 : decode cX11_swap 58 = .ok (.iload_n 1, 1) := by decide +kernel
theorem dX11_swap_59 : decode cX11_swap 59 = .ok (.imul, 1) := by decide +kernel
theorem dX11_swap_60 : decode cX11_swap 60 = .ok (.iload_n 2, 1) := by decide +kernel
theorem dX11_swap_61 : decode cX11_swap 61 = .ok (.iadd, 1) := by decide +kernel
theorem dX11_swap_62 : decode cX11_swap 62 = .ok (.iconst 1, 1) := by decide +kernel
theorem dX11_swap_63 : decode cX11_swap 63 = .ok (.iadd, 1) := by decide +kernel
theorem dX11_swap_64 : decode cX11_swap 64 = .ok (.iaload, 1) := by decide +kernel
theorem dX11_swap_65 : decode cX11_swap 65 = .ok (.iastore, 1) := by decide +kernel
theorem dX11_swap_66 : decode cX11_swap 66 = .ok (.aload_n 0, 1) := by decide +kernel
theorem dX11_swap_67 : decode cX11_swap 67 = .ok (.getfield 46, 3) := by decide +kernel
theorem dX11_swap_70 : decode cX11_swap 70 = .ok (.bipush 21, 2) := by decide +kernel
theorem dX11_swap_72 : decode cX11_swap 72 = .ok (.iload_n 1, 1) := by decide +kernel
theorem dX11_swap_73 : decode cX11_swap 73 = .ok (.imul, 1) := by decide +kernel
theorem dX11_swap_74 : decode cX11_swap 74 = .ok (.iload_n 2, 1) := by decide +kernel
theorem dX11_swap_75 : decode cX11_swap 75 = .ok (.iadd, 1) := by decide +kernel
theorem dX11_swap_76 : decode cX11_swap 76 = .ok (.iconst 1, 1) := by decide +kernel
theorem dX11_swap_77 : decode cX11_swap 77 = .ok (.iadd, 1) := by decide +kernel
theorem dX11_swap_78 : decode cX11_swap 78 = .ok (.iload_n 3, 1) := by decide +kernel
theorem dX11_swap_79 : decode cX11_swap 79 = .ok (.iastore, 1) := by decide +kernel
theorem dX11_swap_80 : decode cX11_swap 80 = .ok (.aload_n 0, 1) := by decide +kernel
theorem dX11_swap_81 : decode cX11_swap 81 = .ok (.getfield 16, 3) := by decide +kernel
theorem dX11_swap_84 : decode cX11_swap 84 = .ok (.iload_n 1, 1) := by decide +kernel
theorem dX11_swap_85 : decode cX11_swap 85 = .ok (.iaload, 1) := by decide +kernel
theorem dX11_swap_86 : decode cX11_swap 86 = .ok (.ireturn, 1) := by decide +kernel
theorem dX11_host_0 : decode cX11_host 0 = .ok (.aload_n 0, 1) := by decide +kernel
theorem dX11_host_1 : decode cX11_host 1 = .ok (.iload_n 1, 1) := by decide +kernel
theorem dX11_host_2 : decode cX11_host 2 = .ok (.invokevirtual 280, 3) := by decide +kernel
theorem dX11_host_5 : decode cX11_host 5 = .ok (.ifCond .eq 23, 3) := by decide +kernel
theorem dX11_host_8 : decode cX11_host 8 = .ok (.iload_n 2, 1) := by decide +kernel
theorem dX11_host_9 : decode cX11_host 9 = .ok (.iconst 0, 1) := by decide +kernel
theorem dX11_host_10 : decode cX11_host 10 = .ok (.sipush 255, 3) := by decide +kernel
theorem dX11_host_13 : decode cX11_host 13 = .ok (.invokestatic 135, 3) := by decide +kernel
theorem dX11_host_16 : decode cX11_host 16 = .ok (.ifCond .eq 12, 3) := by decide +kernel
theorem dX11_host_19 : decode cX11_host 19 = .ok (.iload_n 3, 1) := by decide +kernel
theorem dX11_host_20 : decode cX11_host 20 = .ok (.iconst 0, 1) := by decide +kernel
theorem dX11_host_21 : decode cX11_host 21 = .ok (.iconst 1, 1) := by decide +kernel
theorem dX11_host_22 : decode cX11_host 22 = .ok (.invokestatic 135, 3) := by decide +kernel
theorem dX11_host_25 : decode cX11_host 25 = .ok (.ifCond .ne 5, 3) := by decide +kernel
theorem dX11_host_28 : decode cX11_host 28 = .ok (.iconst (-1), 1) := by decide +kernel
theorem dX11_host_29 : decode cX11_host 29 = .ok (.ireturn, 1) := by decide +kernel
theorem dX11_host_30 : decode cX11_host 30 = .ok (.aload_n 0, 1) := by decide +kernel
theorem dX11_host_31 : decode cX11_host 31 = .ok (.iload_n 1, 1) := by decide +kernel
theorem dX11_host_32 : decode cX11_host 32 = .ok (.iload_n 2, 1) := by decide +kernel
theorem dX11_host_33 : decode cX11_host 33 = .ok (.invokevirtual 243, 3) := by decide +kernel
theorem dX11_host_36 : decode cX11_host 36 = .ok (.iload_n 3, 1) := by decide +kernel
theorem dX11_host_37 : decode cX11_host 37 = .ok (.iconst 1, 1) := by decide +kernel
theorem dX11_host_38 : decode cX11_host 38 = .ok (.if_icmp .ne 7, 3) := by decide +kernel
theorem dX11_host_41 : decode cX11_host 41 = .ok (.iconst 1, 1) := by decide +kernel
theorem dX11_host_42 : decode cX11_host 42 = .ok (.goto 4, 3) := by decide +kernel
theorem dX11_host_45 : decode cX11_host 45 = .ok (.iconst 0, 1) := by decide +kernel
theorem dX11_host_46 : decode cX11_host 46 = .ok (.if_icmp .ne 6, 3) := by decide +kernel
theorem dX11_host_49 : decode cX11_host 49 = .ok (.bipush (-2), 2) := by decide +kernel
theorem dX11_host_51 : decode cX11_host 51 = .ok (.ireturn, 1) := by decide +kernel
theorem dX11_host_52 : decode cX11_host 52 = .ok (.bipush 21, 2) := by decide +kernel
theorem dX11_host_54 : decode cX11_host 54 = .ok (.iload_n 1, 1) := by decide +kernel
theorem dX11_host_55 : decode cX11_host 55 = .ok (.imul, 1) := by decide +kernel
theorem dX11_host_56 : decode cX11_host 56 = .ok (.bipush 16, 2) := by decide +kernel
theorem dX11_host_58 : decode cX11_host 58 = .ok (.iadd, 1) := by decide +kernel
theorem dX11_host_59 : decode cX11_host 59 = .ok (.istore 4, 2) := by decide +kernel
theorem dX11_host_61 : decode cX11_host 61 = .ok (.iload_n 3, 1) := by decide +kernel
theorem dX11_host_62 : decode cX11_host 62 = .ok (.iconst 1, 1) := by decide +kernel
theorem dX11_host_63 : decode cX11_host 63 = .ok (.if_icmp .ne 17, 3) := by decide +kernel
theorem dX11_host_66 : decode cX11_host 66 = .ok (.aload_n 0, 1) := by decide +kernel
theorem dX11_host_67 : decode cX11_host 67 = .ok (.getfield 46, 3) := by decide +kernel
theorem dX11_host_70 : decode cX11_host 70 = .ok (.iload 4, 2) := by decide +kernel
theorem dX11_host_72 : decode cX11_host 72 = .ok (.iaload, 1) := by decide +kernel
theorem dX11_host_73 : decode cX11_host 73 = .ok (.iconst 4, 1) := by decide +kernel
theorem dX11_host_74 : decode cX11_host 74 = .ok (.if_icmp .ne 6, 3) := by decide +kernel
theorem dX11_host_77 : decode cX11_host 77 = .ok (.bipush (-3), 2) := by decide +kernel
theorem dX11_host_79 : decode cX11_host 79 = .ok (.ireturn, 1) := by decide +kernel
theorem dX11_host_80 : decode cX11_host 80 = .ok (.aload_n 0, 1) := by decide +kernel
theorem dX11_host_81 : decode cX11_host 81 = .ok (.invokevirtual 290, 3) := by decide +kernel
theorem dX11_host_84 : decode cX11_host 84 = .ok (.bipush 21, 2) := by decide +kernel
theorem dX11_host_86 : decode cX11_host 86 = .ok (.iload_n 1, 1) := by decide +kernel
theorem dX11_host_87 : decode cX11_host 87 = .ok (.imul, 1) := by decide +kernel
theorem dX11_host_88 : decode cX11_host 88 = .ok (.bipush 17, 2) := by decide +kernel
theorem dX11_host_90 : decode cX11_host 90 = .ok (.iadd, 1) := by decide +kernel
theorem dX11_host_91 : decode cX11_host 91 = .ok (.istore 5, 2) := by decide +kernel
theorem dX11_host_93 : decode cX11_host 93 = .ok (.iload_n 3, 1) := by decide +kernel
theorem dX11_host_94 : decode cX11_host 94 = .ok (.iconst 1, 1) := by decide +kernel
theorem dX11_host_95 : decode cX11_host 95 = .ok (.if_icmp .ne 38, 3) := by decide +kernel
theorem dX11_host_98 : decode cX11_host 98 = .ok (.aload_n 0, 1) := by decide +kernel
theorem dX11_host_99 : decode cX11_host 99 = .ok (.getfield 46, 3) := by decide +kernel
theorem dX11_host_102 : decode cX11_host 102 = .ok (.iload 5, 2) := by decide +kernel
theorem dX11_host_104 : decode cX11_host 104 = .ok (.aload_n 0, 1) := by decide +kernel
theorem dX11_host_105 : decode cX11_host 105 = .ok (.getfield 46, 3) := by decide +kernel
theorem dX11_host_108 : decode cX11_host 108 = .ok (.iload 4, 2) := by decide +kernel
theorem dX11_host_110 : decode cX11_host 110 = .ok (.iaload, 1) := by decide +kernel
theorem dX11_host_111 : decode cX11_host 111 = .ok (.iadd, 1) := by decide +kernel
theorem dX11_host_112 : decode cX11_host 112 = .ok (.iload_n 2, 1) := by decide +kernel
theorem dX11_host_113 : decode cX11_host 113 = .ok (.iastore, 1) := by decide +kernel
theorem dX11_host_114 : decode cX11_host 114 = .ok (.aload_n 0, 1) := by decide +kernel
theorem dX11_host_115 : decode cX11_host 115 = .ok (.getfield 46, 3) := by decide +kernel
theorem dX11_host_118 : decode cX11_host 118 = .ok (.iload 4, 2) := by decide +kernel
theorem dX11_host_120 : decode cX11_host 120 = .ok (.dup2, 1) := by decide +kernel
theorem dX11_host_121 : decode cX11_host 121 = .ok (.iaload, 1) := by decide +kernel
theorem dX11_host_122 : decode cX11_host 122 = .ok (.iconst 1, 1) := by decide +kernel
theorem dX11_host_123 : decode cX11_host 123 = .ok (.iadd, 1) := by decide +kernel
theorem dX11_host_124 : decode cX11_host 124 = .ok (.iastore, 1) := by decide +kernel
theorem dX11_host_125 : decode cX11_host 125 = .ok (.aload_n 0, 1) := by decide +kernel
theorem dX11_host_126 : decode cX11_host 126 = .ok (.getfield 46, 3) := by decide +kernel
theorem dX11_host_129 : decode cX11_host 129 = .ok (.iload 4, 2) := by decide +kernel
theorem dX11_host_131 : decode cX11_host 131 = .ok (.iaload, 1) := by decide +kernel
theorem dX11_host_132 : decode cX11_host 132 = .ok (.ireturn, 1) := by decide +kernel
theorem dX11_host_133 : decode cX11_host 133 = .ok (.iconst 0, 1) := by decide +kernel
theorem dX11_host_134 : decode cX11_host 134 = .ok (.istore 6, 2) := by decide +kernel
theorem dX11_host_136 : decode cX11_host 136 = .ok (.aload_n 0, 1) := by decide +kernel
theorem dX11_host_137 : decode cX11_host 137 = .ok (.getfield 46, 3) := by decide +kernel
theorem dX11_host_140 : decode cX11_host 140 = .ok (.iload 5, 2) := by decide +kernel
theorem dX11_host_142 : decode cX11_host 142 = .ok (.iload 6, 2) := by decide +kernel
theorem dX11_host_144 : decode cX11_host 144 = .ok (.iadd, 1) := by decide +kernel
theorem dX11_host_145 : decode cX11_host 145 = .ok (.iaload, 1) := by decide +kernel
theorem dX11_host_146 : decode cX11_host 146 = .ok (.iload_n 2, 1) := by decide +kernel
theorem dX11_host_147 : decode cX11_host 147 = .ok (.if_icmp .eq 9, 3) := by decide +kernel
theorem dX11_host_150 : decode cX11_host 150 = .ok (.iinc 6 1, 3) := by decide +kernel
theorem dX11_host_153 : decode cX11_host 153 = .ok (.goto (-17), 3) := by decide +kernel
theorem dX11_host_156 : decode cX11_host 156 = .ok (.aload_n 0, 1) := by decide +kernel
theorem dX11_host_157 : decode cX11_host 157 = .ok (.getfield 46, 3) := by decide +kernel
theorem dX11_host_160 : decode cX11_host 160 = .ok (.iload 4, 2) := by decide +kernel
theorem dX11_host_162 : decode cX11_host 162 = .ok (.dup2, 1) := by decide +kernel
theorem dX11_host_163 : decode cX11_host 163 = .ok (.iaload, 1) := by decide +kernel
theorem dX11_host_164 : decode cX11_host 164 = .ok (.iconst 1, 1) := by decide +kernel
theorem dX11_host_165 : decode cX11_host 165 = .ok (.isub, 1) := by decide +kernel
theorem dX11_host_166 : decode cX11_host 166 = .ok (.iastore, 1) := by decide +kernel
theorem dX11_host_167 : decode cX11_host 167 = .ok (.iload 6, 2) := by decide +kernel
theorem dX11_host_169 : decode cX11_host 169 = .ok (.istore 7, 2) := by decide +kernel
theorem dX11_host_171 : decode cX11_host 171 = .ok (.iload 7, 2) := by decide +kernel
theorem dX11_host_173 : decode cX11_host 173 = .ok (.aload_n 0, 1) := by decide +kernel
theorem dX11_host_174 : decode cX11_host 174 = .ok (.getfield 46, 3) := by decide +kernel
theorem dX11_host_177 : decode cX11_host 177 = .ok (.iload 4, 2) := by decide +kernel
theorem dX11_host_179 : decode cX11_host 179 = .ok (.iaload, 1) := by decide +kernel
theorem dX11_host_180 : decode cX11_host 180 = .ok (.if_icmp .ge 31, 3) := by decide +kernel
theorem dX11_host_183 : decode cX11_host 183 = .ok (.aload_n 0, 1) := by decide +kernel
theorem dX11_host_184 : decode cX11_host 184 = .ok (.getfield 46, 3) := by decide +kernel
theorem dX11_host_187 : decode cX11_host 187 = .ok (.iload 5, 2) := by decide +kernel
theorem dX11_host_189 : decode cX11_host 189 = .ok (.iload 7, 2) := by decide +kernel
theorem dX11_host_191 : decode cX11_host 191 = .ok (.iadd, 1) := by decide +kernel
theorem dX11_host_192 : decode cX11_host 192 = .ok (.aload_n 0, 1) := by decide +kernel
theorem dX11_host_193 : decode cX11_host 193 = .ok (.getfield 46, 3) := by decide +kernel
theorem dX11_host_196 : decode cX11_host 196 = .ok (.iload 5, 2) := by decide +kernel
theorem dX11_host_198 : decode cX11_host 198 = .ok (.iload 7, 2) := by decide +kernel
theorem dX11_host_200 : decode cX11_host 200 = .ok (.iadd, 1) := by decide +kernel
theorem dX11_host_201 : decode cX11_host 201 = .ok (.iconst 1, 1) := by decide +kernel
theorem dX11_host_202 : decode cX11_host 202 = .ok (.iadd, 1) := by decide +kernel
theorem dX11_host_203 : decode cX11_host 203 = .ok (.iaload, 1) := by decide +kernel
theorem dX11_host_204 : decode cX11_host 204 = .ok (.iastore, 1) := by decide +kernel
theorem dX11_host_205 : decode cX11_host 205 = .ok (.iinc 7 1, 3) := by decide +kernel
theorem dX11_host_208 : decode cX11_host 208 = .ok (.goto (-37), 3) := by decide +kernel
theorem dX11_host_211 : decode cX11_host 211 = .ok (.aload_n 0, 1) := by decide +kernel
theorem dX11_host_212 : decode cX11_host 212 = .ok (.getfield 46, 3) := by decide +kernel
theorem dX11_host_215 : decode cX11_host 215 = .ok (.iload 4, 2) := by decide +kernel
theorem dX11_host_217 : decode cX11_host 217 = .ok (.iaload, 1) := by decide +kernel
theorem dX11_host_218 : decode cX11_host 218 = .ok (.ireturn, 1) := by decide +kernel
theorem dX11_name_0 : decode cX11_name 0 = .ok (.aload_n 0, 1) := by decide +kernel
theorem dX11_name_1 : decode cX11_name 1 = .ok (.iload_n 1, 1) := by decide +kernel
theorem dX11_name_2 : decode cX11_name 2 = .ok (.invokevirtual 280, 3) := by decide +kernel
theorem dX11_name_5 : decode cX11_name 5 = .ok (.ifCond .eq 12, 3) := by decide +kernel
theorem dX11_name_8 : decode cX11_name 8 = .ok (.iload_n 2, 1) := by decide +kernel
theorem dX11_name_9 : decode cX11_name 9 = .ok (.iconst 0, 1) := by decide +kernel
theorem dX11_name_10 : decode cX11_name 10 = .ok (.iconst 5, 1) := by decide +kernel
theorem dX11_name_11 : decode cX11_name 11 = .ok (.invokestatic 135, 3) := by decide +kernel
theorem dX11_name_14 : decode cX11_name 14 = .ok (.ifCond .ne 5, 3) := by decide +kernel
theorem dX11_name_17 : decode cX11_name 17 = .ok (.iconst (-1), 1) := by decide +kernel
theorem dX11_name_18 : decode cX11_name 18 = .ok (.ireturn, 1) := by decide +kernel
theorem dX11_name_19 : decode cX11_name 19 = .ok (.iload_n 2, 1) := by decide +kernel
theorem dX11_name_20 : decode cX11_name 20 = .ok (.tableswitch 98 0 4 #[36, 46, 53, 66, 73], 36) := by decide +kernel
theorem dX11_name_56 : decode cX11_name 56 = .ok (.aload_n 0, 1) := by decide +kernel
theorem dX11_name_57 : decode cX11_name 57 = .ok (.getfield 13, 3) := by decide +kernel
theorem dX11_name_60 : decode cX11_name 60 = .ok (.iload_n 1, 1) := by decide +kernel
theorem dX11_name_61 : decode cX11_name 61 = .ok (.iaload, 1) := by decide +kernel
theorem dX11_name_62 : decode cX11_name 62 = .ok (.invokestatic 206, 3) := by decide +kernel
theorem dX11_name_65 : decode cX11_name 65 = .ok (.ireturn, 1) := by decide +kernel
theorem dX11_name_66 : decode cX11_name 66 = .ok (.aload_n 0, 1) := by decide +kernel
theorem dX11_name_67 : decode cX11_name 67 = .ok (.getfield 16, 3) := by decide +kernel
theorem dX11_name_70 : decode cX11_name 70 = .ok (.iload_n 1, 1) := by decide +kernel
theorem dX11_name_71 : decode cX11_name 71 = .ok (.iaload, 1) := by decide +kernel
theorem dX11_name_72 : decode cX11_name 72 = .ok (.ireturn, 1) := by decide +kernel
theorem dX11_name_73 : decode cX11_name 73 = .ok (.aload_n 0, 1) := by decide +kernel
theorem dX11_name_74 : decode cX11_name 74 = .ok (.getfield 46, 3) := by decide +kernel
theorem dX11_name_77 : decode cX11_name 77 = .ok (.bipush 21, 2) := by decide +kernel
theorem dX11_name_79 : decode cX11_name 79 = .ok (.iload_n 1, 1) := by decide +kernel
theorem dX11_name_80 : decode cX11_name 80 = .ok (.imul, 1) := by decide +kernel
theorem dX11_name_81 : decode cX11_name 81 = .ok (.bipush 16, 2) := by decide +kernel
theorem dX11_name_83 : decode cX11_name 83 = .ok (.iadd, 1) := by decide +kernel
theorem dX11_name_84 : decode cX11_name 84 = .ok (.iaload, 1) := by decide +kernel
theorem dX11_name_85 : decode cX11_name 85 = .ok (.ireturn, 1) := by decide +kernel
theorem dX11_name_86 : decode cX11_name 86 = .ok (.aload_n 0, 1) := by decide +kernel
theorem dX11_name_87 : decode cX11_name 87 = .ok (.getfield 22, 3) := by decide +kernel
theorem dX11_name_90 : decode cX11_name 90 = .ok (.iload_n 1, 1) := by decide +kernel
theorem dX11_name_91 : decode cX11_name 91 = .ok (.iaload, 1) := by decide +kernel
theorem dX11_name_92 : decode cX11_name 92 = .ok (.ireturn, 1) := by decide +kernel
theorem dX11_name_93 : decode cX11_name 93 = .ok (.aload_n 0, 1) := by decide +kernel
theorem dX11_name_94 : decode cX11_name 94 = .ok (.getfield 19, 3) := by decide +kernel
theorem dX11_name_97 : decode cX11_name 97 = .ok (.iload_n 1, 1) := by decide +kernel
theorem dX11_name_98 : decode cX11_name 98 = .ok (.iaload, 1) := by decide +kernel
theorem dX11_name_99 : decode cX11_name 99 = .ok (.ifCond .ne 8, 3) := by decide +kernel
theorem dX11_name_102 : decode cX11_name 102 = .ok (.bipush (-4), 2) := by decide +kernel
theorem dX11_name_104 : decode cX11_name 104 = .ok (.goto 13, 3) := by decide +kernel
theorem dX11_name_107 : decode cX11_name 107 = .ok (.aload_n 0, 1) := by decide +kernel
theorem dX11_name_108 : decode cX11_name 108 = .ok (.aload_n 0, 1) := by decide +kernel
theorem dX11_name_109 : decode cX11_name 109 = .ok (.getfield 19, 3) := by decide +kernel
theorem dX11_name_112 : decode cX11_name 112 = .ok (.iload_n 1, 1) := by decide +kernel
theorem dX11_name_113 : decode cX11_name 113 = .ok (.iaload, 1) := by decide +kernel
theorem dX11_name_114 : decode cX11_name 114 = .ok (.invokevirtual 240, 3) := by decide +kernel
theorem dX11_name_117 : decode cX11_name 117 = .ok (.ireturn, 1) := by decide +kernel
theorem dX11_name_118 : decode cX11_name 118 = .ok (.aload_n 0, 1) := by decide +kernel
theorem dX11_name_119 : decode cX11_name 119 = .ok (.getfield 16, 3) := by decide +kernel
theorem dX11_name_122 : decode cX11_name 122 = .ok (.iload_n 1, 1) := by decide +kernel
theorem dX11_name_123 : decode cX11_name 123 = .ok (.iaload, 1) := by decide +kernel
theorem dX11_name_124 : decode cX11_name 124 = .ok (.ifCond .le 7, 3) := by decide +kernel
theorem dX11_name_127 : decode cX11_name 127 = .ok (.iconst 1, 1) := by decide +kernel
theorem dX11_name_128 : decode cX11_name 128 = .ok (.goto 4, 3) := by decide +kernel
theorem dX11_name_131 : decode cX11_name 131 = .ok (.iconst 0, 1) := by decide +kernel
theorem dX11_name_132 : decode cX11_name 132 = .ok (.ireturn, 1) := by decide +kernel
theorem dX11_letter_0 : decode cX11_letter 0 = .ok (.aload_n 0, 1) := by decide +kernel
theorem dX11_letter_1 : decode cX11_letter 1 = .ok (.iload_n 1, 1) := by decide +kernel
theorem dX11_letter_2 : decode cX11_letter 2 = .ok (.invokevirtual 280, 3) := by decide +kernel
theorem dX11_letter_5 : decode cX11_letter 5 = .ok (.ifCond .eq 7, 3) := by decide +kernel
theorem dX11_letter_8 : decode cX11_letter 8 = .ok (.iload_n 2, 1) := by decide +kernel
theorem dX11_letter_9 : decode cX11_letter 9 = .ok (.ifCond .ge 5, 3) := by decide +kernel
theorem dX11_letter_12 : decode cX11_letter 12 = .ok (.iconst (-1), 1) := by decide +kernel
theorem dX11_letter_13 : decode cX11_letter 13 = .ok (.ireturn, 1) := by decide +kernel
theorem dX11_letter_14 : decode cX11_letter 14 = .ok (.aload_n 0, 1) := by decide +kernel
theorem dX11_letter_15 : decode cX11_letter 15 = .ok (.getfield 13, 3) := by decide +kernel
theorem dX11_letter_18 : decode cX11_letter 18 = .ok (.iload_n 1, 1) := by decide +kernel
theorem dX11_letter_19 : decode cX11_letter 19 = .ok (.iaload, 1) := by decide +kernel
theorem dX11_letter_20 : decode cX11_letter 20 = .ok (.invokestatic 206, 3) := by decide +kernel
theorem dX11_letter_23 : decode cX11_letter 23 = .ok (.istore_n 3, 1) := by decide +kernel
theorem dX11_letter_24 : decode cX11_letter 24 = .ok (.iload_n 2, 1) := by decide +kernel
theorem dX11_letter_25 : decode cX11_letter 25 = .ok (.iload_n 3, 1) := by decide +kernel
theorem dX11_letter_26 : decode cX11_letter 26 = .ok (.if_icmp .ge 20, 3) := by decide +kernel
theorem dX11_letter_29 : decode cX11_letter 29 = .ok (.aload_n 0, 1) := by decide +kernel
theorem dX11_letter_30 : decode cX11_letter 30 = .ok (.getfield 13, 3) := by decide +kernel
theorem dX11_letter_33 : decode cX11_letter 33 = .ok (.iload_n 1, 1) := by decide +kernel
theorem dX11_letter_34 : decode cX11_letter 34 = .ok (.iaload, 1) := by decide +kernel
theorem dX11_letter_35 : decode cX11_letter 35 = .ok (.iload_n 3, 1) := by decide +kernel
theorem dX11_letter_36 : decode cX11_letter 36 = .ok (.iconst 1, 1) := by decide +kernel
theorem dX11_letter_37 : decode cX11_letter 37 = .ok (.isub, 1) := by decide +kernel
theorem dX11_letter_38 : decode cX11_letter 38 = .ok (.iload_n 2, 1) := by decide +kernel
theorem dX11_letter_39 : decode cX11_letter 39 = .ok (.isub, 1) := by decide +kernel
theorem dX11_letter_40 : decode cX11_letter 40 = .ok (.invokestatic 212, 3) := by decide +kernel
theorem dX11_letter_43 : decode cX11_letter 43 = .ok (.goto 5, 3) := by decide +kernel
theorem dX11_letter_46 : decode cX11_letter 46 = .ok (.bipush (-4), 2) := by decide +kernel
theorem dX11_letter_48 : decode cX11_letter 48 = .ok (.ireturn, 1) := by decide +kernel
theorem dX11_rule_0 : decode cX11_rule 0 = .ok (.aload_n 0, 1) := by decide +kernel
theorem dX11_rule_1 : decode cX11_rule 1 = .ok (.iload_n 1, 1) := by decide +kernel
theorem dX11_rule_2 : decode cX11_rule 2 = .ok (.iload_n 2, 1) := by decide +kernel
theorem dX11_rule_3 : decode cX11_rule 3 = .ok (.invokevirtual 287, 3) := by decide +kernel
theorem dX11_rule_6 : decode cX11_rule 6 = .ok (.ifCond .eq 12, 3) := by decide +kernel
theorem dX11_rule_9 : decode cX11_rule 9 = .ok (.iload_n 3, 1) := by decide +kernel
theorem dX11_rule_10 : decode cX11_rule 10 = .ok (.iconst 0, 1) := by decide +kernel
theorem dX11_rule_11 : decode cX11_rule 11 = .ok (.iconst 4, 1) := by decide +kernel
theorem dX11_rule_12 : decode cX11_rule 12 = .ok (.invokestatic 135, 3) := by decide +kernel
theorem dX11_rule_15 : decode cX11_rule 15 = .ok (.ifCond .ne 5, 3) := by decide +kernel
theorem dX11_rule_18 : decode cX11_rule 18 = .ok (.iconst (-1), 1) := by decide +kernel
theorem dX11_rule_19 : decode cX11_rule 19 = .ok (.ireturn, 1) := by decide +kernel
theorem dX11_rule_20 : decode cX11_rule 20 = .ok (.aload_n 0, 1) := by decide +kernel
theorem dX11_rule_21 : decode cX11_rule 21 = .ok (.iload_n 1, 1) := by decide +kernel
theorem dX11_rule_22 : decode cX11_rule 22 = .ok (.iload_n 2, 1) := by decide +kernel
theorem dX11_rule_23 : decode cX11_rule 23 = .ok (.invokevirtual 271, 3) := by decide +kernel
theorem dX11_rule_26 : decode cX11_rule 26 = .ok (.istore 4, 2) := by decide +kernel
theorem dX11_rule_28 : decode cX11_rule 28 = .ok (.iload_n 3, 1) := by decide +kernel
theorem dX11_rule_29 : decode cX11_rule 29 = .ok (.tableswitch 94 0 3 #[31, 38, 46, 70], 31) := by decide +kernel
theorem dX11_rule_60 : decode cX11_rule 60 = .ok (.aload_n 0, 1) := by decide +kernel
theorem dX11_rule_61 : decode cX11_rule 61 = .ok (.iload_n 1, 1) := by decide +kernel
theorem dX11_rule_62 : decode cX11_rule 62 = .ok (.iload_n 2, 1) := by decide +kernel
theorem dX11_rule_63 : decode cX11_rule 63 = .ok (.invokevirtual 259, 3) := by decide +kernel
theorem dX11_rule_66 : decode cX11_rule 66 = .ok (.ireturn, 1) := by decide +kernel
theorem dX11_rule_67 : decode cX11_rule 67 = .ok (.aload_n 0, 1) := by decide +kernel
theorem dX11_rule_68 : decode cX11_rule 68 = .ok (.getfield 28, 3) := by decide +kernel
theorem dX11_rule_71 : decode cX11_rule 71 = .ok (.iload 4, 2) := by decide +kernel
theorem dX11_rule_73 : decode cX11_rule 73 = .ok (.iaload, 1) := by decide +kernel
theorem dX11_rule_74 : decode cX11_rule 74 = .ok (.ireturn, 1) := by decide +kernel
theorem dX11_rule_75 : decode cX11_rule 75 = .ok (.aload_n 0, 1) := by decide +kernel
theorem dX11_rule_76 : decode cX11_rule 76 = .ok (.getfield 28, 3) := by decide +kernel
theorem dX11_rule_79 : decode cX11_rule 79 = .ok (.iload 4, 2) := by decide +kernel
theorem dX11_rule_81 : decode cX11_rule 81 = .ok (.iaload, 1) := by decide +kernel
theorem dX11_rule_82 : decode cX11_rule 82 = .ok (.iconst 1, 1) := by decide +kernel
theorem dX11_rule_83 : decode cX11_rule 83 = .ok (.if_icmp .ne 13, 3) := by decide +kernel
theorem dX11_rule_86 : decode cX11_rule 86 = .ok (.aload_n 0, 1) := by decide +kernel
theorem dX11_rule_87 : decode cX11_rule 87 = .ok (.getfield 31, 3) := by decide +kernel
theorem dX11_rule_90 : decode cX11_rule 90 = .ok (.iload 4, 2) := by decide +kernel
theorem dX11_rule_92 : decode cX11_rule 92 = .ok (.iaload, 1) := by decide +kernel
theorem dX11_rule_93 : decode cX11_rule 93 = .ok (.goto 5, 3) := by decide +kernel
theorem dX11_rule_96 : decode cX11_rule 96 = .ok (.bipush (-4), 2) := by decide +kernel
theorem dX11_rule_98 : decode cX11_rule 98 = .ok (.ireturn, 1) := by decide +kernel
theorem dX11_rule_99 : decode cX11_rule 99 = .ok (.aload_n 0, 1) := by decide +kernel
theorem dX11_rule_100 : decode cX11_rule 100 = .ok (.getfield 28, 3) := by decide +kernel
theorem dX11_rule_103 : decode cX11_rule 103 = .ok (.iload 4, 2) := by decide +kernel
theorem dX11_rule_105 : decode cX11_rule 105 = .ok (.iaload, 1) := by decide +kernel
theorem dX11_rule_106 : decode cX11_rule 106 = .ok (.iconst 1, 1) := by decide +kernel
theorem dX11_rule_107 : decode cX11_rule 107 = .ok (.if_icmp .ne 13, 3) := by decide +kernel
theorem dX11_rule_110 : decode cX11_rule 110 = .ok (.aload_n 0, 1) := by decide +kernel
theorem dX11_rule_111 : decode cX11_rule 111 = .ok (.getfield 34, 3) := by decide +kernel
theorem dX11_rule_114 : decode cX11_rule 114 = .ok (.iload 4, 2) := by decide +kernel
theorem dX11_rule_116 : decode cX11_rule 116 = .ok (.iaload, 1) := by decide +kernel
theorem dX11_rule_117 : decode cX11_rule 117 = .ok (.goto 5, 3) := by decide +kernel
theorem dX11_rule_120 : decode cX11_rule 120 = .ok (.bipush (-4), 2) := by decide +kernel
theorem dX11_rule_122 : decode cX11_rule 122 = .ok (.ireturn, 1) := by decide +kernel
theorem dX11_rule_123 : decode cX11_rule 123 = .ok (.aload_n 0, 1) := by decide +kernel
theorem dX11_rule_124 : decode cX11_rule 124 = .ok (.getfield 28, 3) := by decide +kernel
theorem dX11_rule_127 : decode cX11_rule 127 = .ok (.iload 4, 2) := by decide +kernel
theorem dX11_rule_129 : decode cX11_rule 129 = .ok (.iaload, 1) := by decide +kernel
theorem dX11_rule_130 : decode cX11_rule 130 = .ok (.iconst 2, 1) := by decide +kernel
theorem dX11_rule_131 : decode cX11_rule 131 = .ok (.iconst 4, 1) := by decide +kernel
theorem dX11_rule_132 : decode cX11_rule 132 = .ok (.invokestatic 135, 3) := by decide +kernel
theorem dX11_rule_135 : decode cX11_rule 135 = .ok (.ifCond .eq 17, 3) := by decide +kernel
theorem dX11_rule_138 : decode cX11_rule 138 = .ok (.aload_n 0, 1) := by decide +kernel
theorem dX11_rule_139 : decode cX11_rule 139 = .ok (.aload_n 0, 1) := by decide +kernel
theorem dX11_rule_140 : decode cX11_rule 140 = .ok (.getfield 37, 3) := by decide +kernel
theorem dX11_rule_143 : decode cX11_rule 143 = .ok (.iload 4, 2) := by decide +kernel
theorem dX11_rule_145 : decode cX11_rule 145 = .ok (.iaload, 1) := by decide +kernel
theorem dX11_rule_146 : decode cX11_rule 146 = .ok (.invokevirtual 240, 3) := by decide +kernel
theorem dX11_rule_149 : decode cX11_rule 149 = .ok (.goto 5, 3) := by decide +kernel
theorem dX11_rule_152 : decode cX11_rule 152 = .ok (.bipush (-4), 2) := by decide +kernel
theorem dX11_rule_154 : decode cX11_rule 154 = .ok (.ireturn, 1) := by decide +kernel
theorem dX11_hostOf_0 : decode cX11_hostOf 0 = .ok (.aload_n 0, 1) := by decide +kernel
theorem dX11_hostOf_1 : decode cX11_hostOf 1 = .ok (.iload_n 1, 1) := by decide +kernel
theorem dX11_hostOf_2 : decode cX11_hostOf 2 = .ok (.invokevirtual 280, 3) := by decide +kernel
theorem dX11_hostOf_5 : decode cX11_hostOf 5 = .ok (.ifCond .eq 7, 3) := by decide +kernel
theorem dX11_hostOf_8 : decode cX11_hostOf 8 = .ok (.iload_n 2, 1) := by decide +kernel
theorem dX11_hostOf_9 : decode cX11_hostOf 9 = .ok (.ifCond .ge 5, 3) := by decide +kernel
theorem dX11_hostOf_12 : decode cX11_hostOf 12 = .ok (.iconst (-1), 1) := by decide +kernel
theorem dX11_hostOf_13 : decode cX11_hostOf 13 = .ok (.ireturn, 1) := by decide +kernel
theorem dX11_hostOf_14 : decode cX11_hostOf 14 = .ok (.iload_n 2, 1) := by decide +kernel
theorem dX11_hostOf_15 : decode cX11_hostOf 15 = .ok (.aload_n 0, 1) := by decide +kernel
theorem dX11_hostOf_16 : decode cX11_hostOf 16 = .ok (.getfield 46, 3) := by decide +kernel
theorem dX11_hostOf_19 : decode cX11_hostOf 19 = .ok (.bipush 21, 2) := by decide +kernel
theorem dX11_hostOf_21 : decode cX11_hostOf 21 = .ok (.iload_n 1, 1) := by decide +kernel
theorem dX11_hostOf_22 : decode cX11_hostOf 22 = .ok (.imul, 1) := by decide +kernel
theorem dX11_hostOf_23 : decode cX11_hostOf 23 = .ok (.bipush 16, 2) := by decide +kernel
theorem dX11_hostOf_25 : decode cX11_hostOf 25 = .ok (.iadd, 1) := by decide +kernel
theorem dX11_hostOf_26 : decode cX11_hostOf 26 = .ok (.iaload, 1) := by decide +kernel
theorem dX11_hostOf_27 : decode cX11_hostOf 27 = .ok (.if_icmp .ge 20, 3) := by decide +kernel
theorem dX11_hostOf_30 : decode cX11_hostOf 30 = .ok (.aload_n 0, 1) := by decide +kernel
theorem dX11_hostOf_31 : decode cX11_hostOf 31 = .ok (.getfield 46, 3) := by decide +kernel
theorem dX11_hostOf_34 : decode cX11_hostOf 34 = .ok (.bipush 21, 2) := by decide +kernel
theorem dX11_hostOf_36 : decode cX11_hostOf 36 = .ok (.iload_n 1, 1) := by decide +kernel
theorem dX11_hostOf_37 : decode cX11_hostOf 37 = .ok (.imul, 1) := by decide +kernel
theorem dX11_hostOf_38 : decode cX11_hostOf 38 = .ok (.bipush 17, 2) := by decide +kernel
theorem dX11_hostOf_40 : decode cX11_hostOf 40 = .ok (.iadd, 1) := by decide +kernel
theorem dX11_hostOf_41 : decode cX11_hostOf 41 = .ok (.iload_n 2, 1) := by decide +kernel
theorem dX11_hostOf_42 : decode cX11_hostOf 42 = .ok (.iadd, 1) := by decide +kernel
theorem dX11_hostOf_43 : decode cX11_hostOf 43 = .ok (.iaload, 1) := by decide +kernel
theorem dX11_hostOf_44 : decode cX11_hostOf 44 = .ok (.goto 5, 3) := by decide +kernel
theorem dX11_hostOf_47 : decode cX11_hostOf 47 = .ok (.bipush (-4), 2) := by decide +kernel
theorem dX11_hostOf_49 : decode cX11_hostOf 49 = .ok (.ireturn, 1) := by decide +kernel
theorem dX11_many_0 : decode cX11_many 0 = .ok (.aload_n 0, 1) := by decide +kernel
theorem dX11_many_1 : decode cX11_many 1 = .ok (.iload_n 1, 1) := by decide +kernel
theorem dX11_many_2 : decode cX11_many 2 = .ok (.invokevirtual 280, 3) := by decide +kernel
theorem dX11_many_5 : decode cX11_many 5 = .ok (.ifCond .eq 22, 3) := by decide +kernel
theorem dX11_many_8 : decode cX11_many 8 = .ok (.iload_n 2, 1) := by decide +kernel
theorem dX11_many_9 : decode cX11_many 9 = .ok (.iconst 0, 1) := by decide +kernel
theorem dX11_many_10 : decode cX11_many 10 = .ok (.bipush 15, 2) := by decide +kernel
theorem dX11_many_12 : decode cX11_many 12 = .ok (.invokestatic 135, 3) := by decide +kernel
theorem dX11_many_15 : decode cX11_many 15 = .ok (.ifCond .eq 12, 3) := by decide +kernel
theorem dX11_many_18 : decode cX11_many 18 = .ok (.iload_n 3, 1) := by decide +kernel
theorem dX11_many_19 : decode cX11_many 19 = .ok (.iconst 0, 1) := by decide +kernel
theorem dX11_many_20 : decode cX11_many 20 = .ok (.iconst 5, 1) := by decide +kernel
theorem dX11_many_21 : decode cX11_many 21 = .ok (.invokestatic 135, 3) := by decide +kernel
theorem dX11_many_24 : decode cX11_many 24 = .ok (.ifCond .ne 5, 3) := by decide +kernel
theorem dX11_many_27 : decode cX11_many 27 = .ok (.iconst (-1), 1) := by decide +kernel
theorem dX11_many_28 : decode cX11_many 28 = .ok (.ireturn, 1) := by decide +kernel
theorem dX11_many_29 : decode cX11_many 29 = .ok (.iconst 0, 1) := by decide +kernel
theorem dX11_many_30 : decode cX11_many 30 = .ok (.istore 4, 2) := by decide +kernel
theorem dX11_many_32 : decode cX11_many 32 = .ok (.iconst 0, 1) := by decide +kernel
theorem dX11_many_33 : decode cX11_many 33 = .ok (.istore 5, 2) := by decide +kernel
theorem dX11_many_35 : decode cX11_many 35 = .ok (.iload 5, 2) := by decide +kernel
theorem dX11_many_37 : decode cX11_many 37 = .ok (.sipush 256, 3) := by decide +kernel
theorem dX11_many_40 : decode cX11_many 40 = .ok (.if_icmp .ge 31, 3) := by decide +kernel
theorem dX11_many_43 : decode cX11_many 43 = .ok (.iload 4, 2) := by decide +kernel
theorem dX11_many_45 : decode cX11_many 45 = .ok (.aload_n 0, 1) := by decide +kernel
theorem dX11_many_46 : decode cX11_many 46 = .ok (.iload_n 1, 1) := by decide +kernel
theorem dX11_many_47 : decode cX11_many 47 = .ok (.iload 5, 2) := by decide +kernel
theorem dX11_many_49 : decode cX11_many 49 = .ok (.iload_n 2, 1) := by decide +kernel
theorem dX11_many_50 : decode cX11_many 50 = .ok (.invokevirtual 283, 3) := by decide +kernel
theorem dX11_many_53 : decode cX11_many 53 = .ok (.iload_n 3, 1) := by decide +kernel
theorem dX11_many_54 : decode cX11_many 54 = .ok (.if_icmp .ne 7, 3) := by decide +kernel
theorem dX11_many_57 : decode cX11_many 57 = .ok (.iconst 1, 1) := by decide +kernel
theorem dX11_many_58 : decode cX11_many 58 = .ok (.goto 4, 3) := by decide +kernel
theorem dX11_many_61 : decode cX11_many 61 = .ok (.iconst 0, 1) := by decide +kernel
theorem dX11_many_62 : decode cX11_many 62 = .ok (.iadd, 1) := by decide +kernel
theorem dX11_many_63 : decode cX11_many 63 = .ok (.istore 4, 2) := by decide +kernel
theorem dX11_many_65 : decode cX11_many 65 = .ok (.iinc 5 1, 3) := by decide +kernel
theorem dX11_many_68 : decode cX11_many 68 = .ok (.goto (-33), 3) := by decide +kernel
theorem dX11_many_71 : decode cX11_many 71 = .ok (.iload 4, 2) := by decide +kernel
theorem dX11_many_73 : decode cX11_many 73 = .ok (.ireturn, 1) := by decide +kernel
theorem dX11_dead_0 : decode cX11_dead 0 = .ok (.aload_n 0, 1) := by decide +kernel
theorem dX11_dead_1 : decode cX11_dead 1 = .ok (.iload_n 1, 1) := by decide +kernel
theorem dX11_dead_2 : decode cX11_dead 2 = .ok (.invokevirtual 280, 3) := by decide +kernel
theorem dX11_dead_5 : decode cX11_dead 5 = .ok (.ifCond .eq 13, 3) := by decide +kernel
theorem dX11_dead_8 : decode cX11_dead 8 = .ok (.iload_n 2, 1) := by decide +kernel
theorem dX11_dead_9 : decode cX11_dead 9 = .ok (.iconst 0, 1) := by decide +kernel
theorem dX11_dead_10 : decode cX11_dead 10 = .ok (.bipush 15, 2) := by decide +kernel
theorem dX11_dead_12 : decode cX11_dead 12 = .ok (.invokestatic 135, 3) := by decide +kernel
theorem dX11_dead_15 : decode cX11_dead 15 = .ok (.ifCond .ne 5, 3) := by decide +kernel
theorem dX11_dead_18 : decode cX11_dead 18 = .ok (.iconst (-1), 1) := by decide +kernel
theorem dX11_dead_19 : decode cX11_dead 19 = .ok (.ireturn, 1) := by decide +kernel
theorem dX11_dead_20 : decode cX11_dead 20 = .ok (.iconst 1, 1) := by decide +kernel
theorem dX11_dead_21 : decode cX11_dead 21 = .ok (.aload_n 0, 1) := by decide +kernel
theorem dX11_dead_22 : decode cX11_dead 22 = .ok (.getfield 16, 3) := by decide +kernel
theorem dX11_dead_25 : decode cX11_dead 25 = .ok (.iload_n 1, 1) := by decide +kernel
theorem dX11_dead_26 : decode cX11_dead 26 = .ok (.iaload, 1) := by decide +kernel
theorem dX11_dead_27 : decode cX11_dead 27 = .ok (.ishl, 1) := by decide +kernel
theorem dX11_dead_28 : decode cX11_dead 28 = .ok (.iconst 1, 1) := by decide +kernel
theorem dX11_dead_29 : decode cX11_dead 29 = .ok (.isub, 1) := by decide +kernel
theorem dX11_dead_30 : decode cX11_dead 30 = .ok (.istore_n 3, 1) := by decide +kernel
theorem dX11_dead_31 : decode cX11_dead 31 = .ok (.iconst 0, 1) := by decide +kernel
theorem dX11_dead_32 : decode cX11_dead 32 = .ok (.istore 4, 2) := by decide +kernel
theorem dX11_dead_34 : decode cX11_dead 34 = .ok (.iload 4, 2) := by decide +kernel
theorem dX11_dead_36 : decode cX11_dead 36 = .ok (.sipush 256, 3) := by decide +kernel
theorem dX11_dead_39 : decode cX11_dead 39 = .ok (.if_icmp .ge 41, 3) := by decide +kernel
theorem dX11_dead_42 : decode cX11_dead 42 = .ok (.aload_n 0, 1) := by decide +kernel
theorem dX11_dead_43 : decode cX11_dead 43 = .ok (.iload_n 1, 1) := by decide +kernel
theorem dX11_dead_44 : decode cX11_dead 44 = .ok (.iload 4, 2) := by decide +kernel
theorem dX11_dead_46 : decode cX11_dead 46 = .ok (.iload_n 2, 1) := by decide +kernel
theorem dX11_dead_47 : decode cX11_dead 47 = .ok (.invokevirtual 283, 3) := by decide +kernel
theorem dX11_dead_50 : decode cX11_dead 50 = .ok (.pop, 1) := by decide +kernel
theorem dX11_dead_51 : decode cX11_dead 51 = .ok (.iload_n 3, 1) := by decide +kernel
theorem dX11_dead_52 : decode cX11_dead 52 = .ok (.aload_n 0, 1) := by decide +kernel
theorem dX11_dead_53 : decode cX11_dead 53 = .ok (.getfield 253, 3) := by decide +kernel
theorem dX11_dead_56 : decode cX11_dead 56 = .ok (.iload_n 1, 1) := by decide +kernel
theorem dX11_dead_57 : decode cX11_dead 57 = .ok (.if_icmp .ne 14, 3) := by decide +kernel
theorem dX11_dead_60 : decode cX11_dead 60 = .ok (.iconst 1, 1) := by decide +kernel
theorem dX11_dead_61 : decode cX11_dead 61 = .ok (.aload_n 0, 1) := by decide +kernel
theorem dX11_dead_62 : decode cX11_dead 62 = .ok (.getfield 256, 3) := by decide +kernel
theorem dX11_dead_65 : decode cX11_dead 65 = .ok (.ishl, 1) := by decide +kernel
theorem dX11_dead_66 : decode cX11_dead 66 = .ok (.iconst (-1), 1) := by decide +kernel
theorem dX11_dead_67 : decode cX11_dead 67 = .ok (.ixor, 1) := by decide +kernel
theorem dX11_dead_68 : decode cX11_dead 68 = .ok (.goto 4, 3) := by decide +kernel
theorem dX11_dead_71 : decode cX11_dead 71 = .ok (.iconst (-1), 1) := by decide +kernel
theorem dX11_dead_72 : decode cX11_dead 72 = .ok (.iand, 1) := by decide +kernel
theorem dX11_dead_73 : decode cX11_dead 73 = .ok (.istore_n 3, 1) := by decide +kernel
theorem dX11_dead_74 : decode cX11_dead 74 = .ok (.iinc 4 1, 3) := by decide +kernel
theorem dX11_dead_77 : decode cX11_dead 77 = .ok (.goto (-43), 3) := by decide +kernel
theorem dX11_dead_80 : decode cX11_dead 80 = .ok (.iload_n 3, 1) := by decide +kernel
theorem dX11_dead_81 : decode cX11_dead 81 = .ok (.ireturn, 1) := by decide +kernel
theorem dX11_floats_0 : decode cX11_floats 0 = .ok (.iload_n 0, 1) := by decide +kernel
theorem dX11_floats_1 : decode cX11_floats 1 = .ok (.ifCond .ne 5, 3) := by decide +kernel
theorem dX11_floats_4 : decode cX11_floats 4 = .ok (.iconst 0, 1) := by decide +kernel
theorem dX11_floats_5 : decode cX11_floats 5 = .ok (.ireturn, 1) := by decide +kernel
theorem dX11_floats_6 : decode cX11_floats 6 = .ok (.iconst 0, 1) := by decide +kernel
theorem dX11_floats_7 : decode cX11_floats 7 = .ok (.istore_n 1, 1) := by decide +kernel
theorem dX11_floats_8 : decode cX11_floats 8 = .ok (.iload_n 0, 1) := by decide +kernel
theorem dX11_floats_9 : decode cX11_floats 9 = .ok (.iload_n 1, 1) := by decide +kernel
theorem dX11_floats_10 : decode cX11_floats 10 = .ok (.ishr, 1) := by decide +kernel
theorem dX11_floats_11 : decode cX11_floats 11 = .ok (.iconst 1, 1) := by decide +kernel
theorem dX11_floats_12 : decode cX11_floats 12 = .ok (.if_icmp .le 9, 3) := by decide +kernel
theorem dX11_floats_15 : decode cX11_floats 15 = .ok (.iinc 1 1, 3) := by decide +kernel
theorem dX11_floats_18 : decode cX11_floats 18 = .ok (.goto (-10), 3) := by decide +kernel
theorem dX11_floats_21 : decode cX11_floats 21 = .ok (.bipush 127, 2) := by decide +kernel
theorem dX11_floats_23 : decode cX11_floats 23 = .ok (.iload_n 1, 1) := by decide +kernel
theorem dX11_floats_24 : decode cX11_floats 24 = .ok (.iadd, 1) := by decide +kernel
theorem dX11_floats_25 : decode cX11_floats 25 = .ok (.bipush 8, 2) := by decide +kernel
theorem dX11_floats_27 : decode cX11_floats 27 = .ok (.isub, 1) := by decide +kernel
theorem dX11_floats_28 : decode cX11_floats 28 = .ok (.bipush 23, 2) := by decide +kernel
theorem dX11_floats_30 : decode cX11_floats 30 = .ok (.ishl, 1) := by decide +kernel
theorem dX11_floats_31 : decode cX11_floats 31 = .ok (.iload_n 0, 1) := by decide +kernel
theorem dX11_floats_32 : decode cX11_floats 32 = .ok (.iconst 1, 1) := by decide +kernel
theorem dX11_floats_33 : decode cX11_floats 33 = .ok (.iload_n 1, 1) := by decide +kernel
theorem dX11_floats_34 : decode cX11_floats 34 = .ok (.ishl, 1) := by decide +kernel
theorem dX11_floats_35 : decode cX11_floats 35 = .ok (.ixor, 1) := by decide +kernel
theorem dX11_floats_36 : decode cX11_floats 36 = .ok (.bipush 23, 2) := by decide +kernel
theorem dX11_floats_38 : decode cX11_floats 38 = .ok (.iload_n 1, 1) := by decide +kernel
theorem dX11_floats_39 : decode cX11_floats 39 = .ok (.isub, 1) := by decide +kernel
theorem dX11_floats_40 : decode cX11_floats 40 = .ok (.ishl, 1) := by decide +kernel
theorem dX11_floats_41 : decode cX11_floats 41 = .ok (.ior, 1) := by decide +kernel
theorem dX11_floats_42 : decode cX11_floats 42 = .ok (.ireturn, 1) := by decide +kernel
theorem dX11_lookups_0 : decode cX11_lookups 0 = .ok (.aload_n 0, 1) := by decide +kernel
theorem dX11_lookups_1 : decode cX11_lookups 1 = .ok (.iload_n 1, 1) := by decide +kernel
theorem dX11_lookups_2 : decode cX11_lookups 2 = .ok (.invokevirtual 280, 3) := by decide +kernel
theorem dX11_lookups_5 : decode cX11_lookups 5 = .ok (.ifCond .eq 32, 3) := by decide +kernel
theorem dX11_lookups_8 : decode cX11_lookups 8 = .ok (.iload_n 2, 1) := by decide +kernel
theorem dX11_lookups_9 : decode cX11_lookups 9 = .ok (.iconst 0, 1) := by decide +kernel
theorem dX11_lookups_10 : decode cX11_lookups 10 = .ok (.bipush 15, 2) := by decide +kernel
theorem dX11_lookups_12 : decode cX11_lookups 12 = .ok (.invokestatic 135, 3) := by decide +kernel
theorem dX11_lookups_15 : decode cX11_lookups 15 = .ok (.ifCond .eq 22, 3) := by decide +kernel
theorem dX11_lookups_18 : decode cX11_lookups 18 = .ok (.iload 4, 2) := by decide +kernel
theorem dX11_lookups_20 : decode cX11_lookups 20 = .ok (.iconst 0, 1) := by decide +kernel
theorem dX11_lookups_21 : decode cX11_lookups 21 = .ok (.iconst 1, 1) := by decide +kernel
theorem dX11_lookups_22 : decode cX11_lookups 22 = .ok (.invokestatic 135, 3) := by decide +kernel
theorem dX11_lookups_25 : decode cX11_lookups 25 = .ok (.ifCond .eq 12, 3) := by decide +kernel
theorem dX11_lookups_28 : decode cX11_lookups 28 = .ok (.iload 4, 2) := by decide +kernel
theorem dX11_lookups_30 : decode cX11_lookups 30 = .ok (.ifCond .ne 9, 3) := by decide +kernel
theorem dX11_lookups_33 : decode cX11_lookups 33 = .ok (.iload_n 3, 1) := by decide +kernel
theorem dX11_lookups_34 : decode cX11_lookups 34 = .ok (.ifCond .ge 5, 3) := by decide +kernel
theorem dX11_lookups_37 : decode cX11_lookups 37 = .ok (.iconst (-1), 1) := by decide +kernel
theorem dX11_lookups_38 : decode cX11_lookups 38 = .ok (.ireturn, 1) := by decide +kernel
theorem dX11_lookups_39 : decode cX11_lookups 39 = .ok (.iconst 0, 1) := by decide +kernel
theorem dX11_lookups_40 : decode cX11_lookups 40 = .ok (.istore 5, 2) := by decide +kernel
theorem dX11_lookups_42 : decode cX11_lookups 42 = .ok (.iconst 0, 1) := by decide +kernel
theorem dX11_lookups_43 : decode cX11_lookups 43 = .ok (.istore 6, 2) := by decide +kernel
theorem dX11_lookups_45 : decode cX11_lookups 45 = .ok (.iload 6, 2) := by decide +kernel
theorem dX11_lookups_47 : decode cX11_lookups 47 = .ok (.sipush 256, 3) := by decide +kernel
theorem dX11_lookups_50 : decode cX11_lookups 50 = .ok (.if_icmp .ge 27, 3) := by decide +kernel
theorem dX11_lookups_53 : decode cX11_lookups 53 = .ok (.aload_n 0, 1) := by decide +kernel
theorem dX11_lookups_54 : decode cX11_lookups 54 = .ok (.iload_n 1, 1) := by decide +kernel
theorem dX11_lookups_55 : decode cX11_lookups 55 = .ok (.iload 6, 2) := by decide +kernel
theorem dX11_lookups_57 : decode cX11_lookups 57 = .ok (.iload_n 2, 1) := by decide +kernel
theorem dX11_lookups_58 : decode cX11_lookups 58 = .ok (.invokevirtual 283, 3) := by decide +kernel
theorem dX11_lookups_61 : decode cX11_lookups 61 = .ok (.pop, 1) := by decide +kernel
theorem dX11_lookups_62 : decode cX11_lookups 62 = .ok (.iload 5, 2) := by decide +kernel
theorem dX11_lookups_64 : decode cX11_lookups 64 = .ok (.aload_n 0, 1) := by decide +kernel
theorem dX11_lookups_65 : decode cX11_lookups 65 = .ok (.getfield 200, 3) := by decide +kernel
theorem dX11_lookups_68 : decode cX11_lookups 68 = .ok (.iadd, 1) := by decide +kernel
theorem dX11_lookups_69 : decode cX11_lookups 69 = .ok (.istore 5, 2) := by decide +kernel
theorem dX11_lookups_71 : decode cX11_lookups 71 = .ok (.iinc 6 1, 3) := by decide +kernel
theorem dX11_lookups_74 : decode cX11_lookups 74 = .ok (.goto (-29), 3) := by decide +kernel
theorem dX11_lookups_77 : decode cX11_lookups 77 = .ok (.iload 4, 2) := by decide +kernel
theorem dX11_lookups_79 : decode cX11_lookups 79 = .ok (.iconst 1, 1) := by decide +kernel
theorem dX11_lookups_80 : decode cX11_lookups 80 = .ok (.if_icmp .ne 9, 3) := by decide +kernel
theorem dX11_lookups_83 : decode cX11_lookups 83 = .ok (.iload 5, 2) := by decide +kernel
theorem dX11_lookups_85 : decode cX11_lookups 85 = .ok (.invokestatic 293, 3) := by decide +kernel
theorem dX11_lookups_88 : decode cX11_lookups 88 = .ok (.ireturn, 1) := by decide +kernel
theorem dX11_lookups_89 : decode cX11_lookups 89 = .ok (.iload 5, 2) := by decide +kernel
theorem dX11_lookups_91 : decode cX11_lookups 91 = .ok (.i2l, 1) := by decide +kernel
theorem dX11_lookups_92 : decode cX11_lookups 92 = .ok (.iload_n 3, 1) := by decide +kernel
theorem dX11_lookups_93 : decode cX11_lookups 93 = .ok (.i2l, 1) := by decide +kernel
theorem dX11_lookups_94 : decode cX11_lookups 94 = .ok (.lmul, 1) := by decide +kernel
theorem dX11_lookups_95 : decode cX11_lookups 95 = .ok (.lstore 6, 2) := by decide +kernel
theorem dX11_lookups_97 : decode cX11_lookups 97 = .ok (.lload 6, 2) := by decide +kernel
theorem dX11_lookups_99 : decode cX11_lookups 99 = .ok (.ldc2_w 296, 3) := by decide +kernel
theorem dX11_lookups_102 : decode cX11_lookups 102 = .ok (.lcmp, 1) := by decide +kernel
theorem dX11_lookups_103 : decode cX11_lookups 103 = .ok (.ifCond .le 8, 3) := by decide +kernel
theorem dX11_lookups_106 : decode cX11_lookups 106 = .ok (.bipush (-3), 2) := by decide +kernel
theorem dX11_lookups_108 : decode cX11_lookups 108 = .ok (.goto 6, 3) := by decide +kernel
theorem dX11_lookups_111 : decode cX11_lookups 111 = .ok (.lload 6, 2) := by decide +kernel
theorem dX11_lookups_113 : decode cX11_lookups 113 = .ok (.l2i, 1) := by decide +kernel
theorem dX11_lookups_114 : decode cX11_lookups 114 = .ok (.ireturn, 1) := by decide +kernel
theorem dX11_leadsOf_0 : decode cX11_leadsOf 0 = .ok (.iconst 0, 1) := by decide +kernel
theorem dX11_leadsOf_1 : decode cX11_leadsOf 1 = .ok (.istore_n 2, 1) := by decide +kernel
theorem dX11_leadsOf_2 : decode cX11_leadsOf 2 = .ok (.aload_n 0, 1) := by decide +kernel
theorem dX11_leadsOf_3 : decode cX11_leadsOf 3 = .ok (.getfield 19, 3) := by decide +kernel
theorem dX11_leadsOf_6 : decode cX11_leadsOf 6 = .ok (.iload_n 1, 1) := by decide +kernel
theorem dX11_leadsOf_7 : decode cX11_leadsOf 7 = .ok (.iaload, 1) := by decide +kernel
theorem dX11_leadsOf_8 : decode cX11_leadsOf 8 = .ok (.ifCond .ne 8, 3) := by decide +kernel
theorem dX11_leadsOf_11 : decode cX11_leadsOf 11 = .ok (.bipush (-4), 2) := by decide +kernel
theorem dX11_leadsOf_13 : decode cX11_leadsOf 13 = .ok (.goto 13, 3) := by decide +kernel
theorem dX11_leadsOf_16 : decode cX11_leadsOf 16 = .ok (.aload_n 0, 1) := by decide +kernel
theorem dX11_leadsOf_17 : decode cX11_leadsOf 17 = .ok (.aload_n 0, 1) := by decide +kernel
theorem dX11_leadsOf_18 : decode cX11_leadsOf 18 = .ok (.getfield 19, 3) := by decide +kernel
theorem dX11_leadsOf_21 : decode cX11_leadsOf 21 = .ok (.iload_n 1, 1) := by decide +kernel
theorem dX11_leadsOf_22 : decode cX11_leadsOf 22 = .ok (.iaload, 1) := by decide +kernel
theorem dX11_leadsOf_23 : decode cX11_leadsOf 23 = .ok (.invokevirtual 240, 3) := by decide +kernel
theorem dX11_leadsOf_26 : decode cX11_leadsOf 26 = .ok (.istore_n 3, 1) := by decide +kernel
theorem dX11_leadsOf_27 : decode cX11_leadsOf 27 = .ok (.iload_n 2, 1) := by decide +kernel
theorem dX11_leadsOf_28 : decode cX11_leadsOf 28 = .ok (.iload_n 3, 1) := by decide +kernel
theorem dX11_leadsOf_29 : decode cX11_leadsOf 29 = .ok (.bipush (-4), 2) := by decide +kernel
theorem dX11_leadsOf_31 : decode cX11_leadsOf 31 = .ok (.if_icmp .eq 12, 3) := by decide +kernel
theorem dX11_leadsOf_34 : decode cX11_leadsOf 34 = .ok (.aload_n 0, 1) := by decide +kernel
theorem dX11_leadsOf_35 : decode cX11_leadsOf 35 = .ok (.getfield 16, 3) := by decide +kernel
theorem dX11_leadsOf_38 : decode cX11_leadsOf 38 = .ok (.iload_n 3, 1) := by decide +kernel
theorem dX11_leadsOf_39 : decode cX11_leadsOf 39 = .ok (.iaload, 1) := by decide +kernel
theorem dX11_leadsOf_40 : decode cX11_leadsOf 40 = .ok (.ifCond .ne 7, 3) := by decide +kernel
theorem dX11_leadsOf_43 : decode cX11_leadsOf 43 = .ok (.iconst 0, 1) := by decide +kernel
theorem dX11_leadsOf_44 : decode cX11_leadsOf 44 = .ok (.goto 6, 3) := by decide +kernel
theorem dX11_leadsOf_47 : decode cX11_leadsOf 47 = .ok (.iconst 1, 1) := by decide +kernel
theorem dX11_leadsOf_48 : decode cX11_leadsOf 48 = .ok (.iload_n 3, 1) := by decide +kernel
theorem dX11_leadsOf_49 : decode cX11_leadsOf 49 = .ok (.ishl, 1) := by decide +kernel
theorem dX11_leadsOf_50 : decode cX11_leadsOf 50 = .ok (.ior, 1) := by decide +kernel
theorem dX11_leadsOf_51 : decode cX11_leadsOf 51 = .ok (.istore_n 2, 1) := by decide +kernel
theorem dX11_leadsOf_52 : decode cX11_leadsOf 52 = .ok (.iconst 0, 1) := by decide +kernel
theorem dX11_leadsOf_53 : decode cX11_leadsOf 53 = .ok (.istore 4, 2) := by decide +kernel
theorem dX11_leadsOf_55 : decode cX11_leadsOf 55 = .ok (.iload 4, 2) := by decide +kernel
theorem dX11_leadsOf_57 : decode cX11_leadsOf 57 = .ok (.aload_n 0, 1) := by decide +kernel
theorem dX11_leadsOf_58 : decode cX11_leadsOf 58 = .ok (.getfield 16, 3) := by decide +kernel
theorem dX11_leadsOf_61 : decode cX11_leadsOf 61 = .ok (.iload_n 1, 1) := by decide +kernel
theorem dX11_leadsOf_62 : decode cX11_leadsOf 62 = .ok (.iaload, 1) := by decide +kernel
theorem dX11_leadsOf_63 : decode cX11_leadsOf 63 = .ok (.if_icmp .ge 71, 3) := by decide +kernel
theorem dX11_leadsOf_66 : decode cX11_leadsOf 66 = .ok (.bipush 8, 2) := by decide +kernel
theorem dX11_leadsOf_68 : decode cX11_leadsOf 68 = .ok (.iload_n 1, 1) := by decide +kernel
theorem dX11_leadsOf_69 : decode cX11_leadsOf 69 = .ok (.imul, 1) := by decide +kernel
theorem dX11_leadsOf_70 : decode cX11_leadsOf 70 = .ok (.iload 4, 2) := by decide +kernel
theorem dX11_leadsOf_72 : decode cX11_leadsOf 72 = .ok (.iadd, 1) := by decide +kernel
theorem dX11_leadsOf_73 : decode cX11_leadsOf 73 = .ok (.istore 5, 2) := by decide +kernel
theorem dX11_leadsOf_75 : decode cX11_leadsOf 75 = .ok (.aload_n 0, 1) := by decide +kernel
theorem dX11_leadsOf_76 : decode cX11_leadsOf 76 = .ok (.getfield 28, 3) := by decide +kernel
theorem dX11_leadsOf_79 : decode cX11_leadsOf 79 = .ok (.iload 5, 2) := by decide +kernel
theorem dX11_leadsOf_81 : decode cX11_leadsOf 81 = .ok (.iaload, 1) := by decide +kernel
theorem dX11_leadsOf_82 : decode cX11_leadsOf 82 = .ok (.iconst 2, 1) := by decide +kernel
theorem dX11_leadsOf_83 : decode cX11_leadsOf 83 = .ok (.if_icmp .ne 17, 3) := by decide +kernel
theorem dX11_leadsOf_86 : decode cX11_leadsOf 86 = .ok (.aload_n 0, 1) := by decide +kernel
theorem dX11_leadsOf_87 : decode cX11_leadsOf 87 = .ok (.aload_n 0, 1) := by decide +kernel
theorem dX11_leadsOf_88 : decode cX11_leadsOf 88 = .ok (.getfield 37, 3) := by decide +kernel
theorem dX11_leadsOf_91 : decode cX11_leadsOf 91 = .ok (.iload 5, 2) := by decide +kernel
theorem dX11_leadsOf_93 : decode cX11_leadsOf 93 = .ok (.iaload, 1) := by decide +kernel
theorem dX11_leadsOf_94 : decode cX11_leadsOf 94 = .ok (.invokevirtual 240, 3) := by decide +kernel
theorem dX11_leadsOf_97 : decode cX11_leadsOf 97 = .ok (.goto 5, 3) := by decide +kernel
theorem dX11_leadsOf_100 : decode cX11_leadsOf 100 = .ok (.bipush (-4), 2) := by decide +kernel
theorem dX11_leadsOf_102 : decode cX11_leadsOf 102 = .ok (.istore_n 3, 1) := by decide +kernel
theorem dX11_leadsOf_103 : decode cX11_leadsOf 103 = .ok (.iload_n 2, 1) := by decide +kernel
theorem dX11_leadsOf_104 : decode cX11_leadsOf 104 = .ok (.iload_n 3, 1) := by decide +kernel
theorem dX11_leadsOf_105 : decode cX11_leadsOf 105 = .ok (.bipush (-4), 2) := by decide +kernel
theorem dX11_leadsOf_107 : decode cX11_leadsOf 107 = .ok (.if_icmp .eq 12, 3) := by decide +kernel
theorem dX11_leadsOf_110 : decode cX11_leadsOf 110 = .ok (.aload_n 0, 1) := by decide +kernel
theorem dX11_leadsOf_111 : decode cX11_leadsOf 111 = .ok (.getfield 16, 3) := by decide +kernel
theorem dX11_leadsOf_114 : decode cX11_leadsOf 114 = .ok (.iload_n 3, 1) := by decide +kernel
theorem dX11_leadsOf_115 : decode cX11_leadsOf 115 = .ok (.iaload, 1) := by decide +kernel
theorem dX11_leadsOf_116 : decode cX11_leadsOf 116 = .ok (.ifCond .ne 7, 3) := by decide +kernel
theorem dX11_leadsOf_119 : decode cX11_leadsOf 119 = .ok (.iconst 0, 1) := by decide +kernel
theorem dX11_leadsOf_120 : decode cX11_leadsOf 120 = .ok (.goto 6, 3) := by decide +kernel
theorem dX11_leadsOf_123 : decode cX11_leadsOf 123 = .ok (.iconst 1, 1) := by decide +kernel
theorem dX11_leadsOf_124 : decode cX11_leadsOf 124 = .ok (.iload_n 3, 1) := by decide +kernel
theorem dX11_leadsOf_125 : decode cX11_leadsOf 125 = .ok (.ishl, 1) := by decide +kernel
theorem dX11_leadsOf_126 : decode cX11_leadsOf 126 = .ok (.ior, 1) := by decide +kernel
theorem dX11_leadsOf_127 : decode cX11_leadsOf 127 = .ok (.istore_n 2, 1) := by decide +kernel
theorem dX11_leadsOf_128 : decode cX11_leadsOf 128 = .ok (.iinc 4 1, 3) := by decide +kernel
theorem dX11_leadsOf_131 : decode cX11_leadsOf 131 = .ok (.goto (-76), 3) := by decide +kernel
theorem dX11_leadsOf_134 : decode cX11_leadsOf 134 = .ok (.iload_n 2, 1) := by decide +kernel
theorem dX11_leadsOf_135 : decode cX11_leadsOf 135 = .ok (.ireturn, 1) := by decide +kernel
theorem dX11_leads_0 : decode cX11_leads 0 = .ok (.aload_n 0, 1) := by decide +kernel
theorem dX11_leads_1 : decode cX11_leads 1 = .ok (.iload_n 1, 1) := by decide +kernel
theorem dX11_leads_2 : decode cX11_leads 2 = .ok (.invokevirtual 280, 3) := by decide +kernel
theorem dX11_leads_5 : decode cX11_leads 5 = .ok (.ifCond .ne 5, 3) := by decide +kernel
theorem dX11_leads_8 : decode cX11_leads 8 = .ok (.iconst (-1), 1) := by decide +kernel
theorem dX11_leads_9 : decode cX11_leads 9 = .ok (.ireturn, 1) := by decide +kernel
theorem dX11_leads_10 : decode cX11_leads 10 = .ok (.aload_n 0, 1) := by decide +kernel
theorem dX11_leads_11 : decode cX11_leads 11 = .ok (.iload_n 1, 1) := by decide +kernel
theorem dX11_leads_12 : decode cX11_leads 12 = .ok (.invokevirtual 298, 3) := by decide +kernel
theorem dX11_leads_15 : decode cX11_leads 15 = .ok (.istore_n 2, 1) := by decide +kernel
theorem dX11_leads_16 : decode cX11_leads 16 = .ok (.iconst 0, 1) := by decide +kernel
theorem dX11_leads_17 : decode cX11_leads 17 = .ok (.istore_n 3, 1) := by decide +kernel
theorem dX11_leads_18 : decode cX11_leads 18 = .ok (.iload_n 3, 1) := by decide +kernel
theorem dX11_leads_19 : decode cX11_leads 19 = .ok (.iload_n 2, 1) := by decide +kernel
theorem dX11_leads_20 : decode cX11_leads 20 = .ok (.if_icmp .eq 49, 3) := by decide +kernel
theorem dX11_leads_23 : decode cX11_leads 23 = .ok (.iload_n 2, 1) := by decide +kernel
theorem dX11_leads_24 : decode cX11_leads 24 = .ok (.istore_n 3, 1) := by decide +kernel
theorem dX11_leads_25 : decode cX11_leads 25 = .ok (.iconst 0, 1) := by decide +kernel
theorem dX11_leads_26 : decode cX11_leads 26 = .ok (.istore 4, 2) := by decide +kernel
theorem dX11_leads_28 : decode cX11_leads 28 = .ok (.iload 4, 2) := by decide +kernel
theorem dX11_leads_30 : decode cX11_leads 30 = .ok (.aload_n 0, 1) := by decide +kernel
theorem dX11_leads_31 : decode cX11_leads 31 = .ok (.getfield 123, 3) := by decide +kernel
theorem dX11_leads_34 : decode cX11_leads 34 = .ok (.if_icmp .ge 32, 3) := by decide +kernel
theorem dX11_leads_37 : decode cX11_leads 37 = .ok (.iload_n 2, 1) := by decide +kernel
theorem dX11_leads_38 : decode cX11_leads 38 = .ok (.iload_n 3, 1) := by decide +kernel
theorem dX11_leads_39 : decode cX11_leads 39 = .ok (.iload 4, 2) := by decide +kernel
theorem dX11_leads_41 : decode cX11_leads 41 = .ok (.ishr, 1) := by decide +kernel
theorem dX11_leads_42 : decode cX11_leads 42 = .ok (.iconst 1, 1) := by decide +kernel
theorem dX11_leads_43 : decode cX11_leads 43 = .ok (.iand, 1) := by decide +kernel
theorem dX11_leads_44 : decode cX11_leads 44 = .ok (.iconst 1, 1) := by decide +kernel
theorem dX11_leads_45 : decode cX11_leads 45 = .ok (.if_icmp .ne 12, 3) := by decide +kernel
theorem dX11_leads_48 : decode cX11_leads 48 = .ok (.aload_n 0, 1) := by decide +kernel
theorem dX11_leads_49 : decode cX11_leads 49 = .ok (.iload 4, 2) := by decide +kernel
theorem dX11_leads_51 : decode cX11_leads 51 = .ok (.invokevirtual 298, 3) := by decide +kernel
theorem dX11_leads_54 : decode cX11_leads 54 = .ok (.goto 4, 3) := by decide +kernel
theorem dX11_leads_57 : decode cX11_leads 57 = .ok (.iconst 0, 1) := by decide +kernel
theorem dX11_leads_58 : decode cX11_leads 58 = .ok (.ior, 1) := by decide +kernel
theorem dX11_leads_59 : decode cX11_leads 59 = .ok (.istore_n 2, 1) := by decide +kernel
theorem dX11_leads_60 : decode cX11_leads 60 = .ok (.iinc 4 1, 3) := by decide +kernel
theorem dX11_leads_63 : decode cX11_leads 63 = .ok (.goto (-35), 3) := by decide +kernel
theorem dX11_leads_66 : decode cX11_leads 66 = .ok (.goto (-48), 3) := by decide +kernel
theorem dX11_leads_69 : decode cX11_leads 69 = .ok (.iload_n 2, 1) := by decide +kernel
theorem dX11_leads_70 : decode cX11_leads 70 = .ok (.ireturn, 1) := by decide +kernel
theorem dX11_count_0 : decode cX11_count 0 = .ok (.iconst 0, 1) := by decide +kernel
theorem dX11_count_1 : decode cX11_count 1 = .ok (.istore_n 2, 1) := by decide +kernel
theorem dX11_count_2 : decode cX11_count 2 = .ok (.iconst 0, 1) := by decide +kernel
theorem dX11_count_3 : decode cX11_count 3 = .ok (.istore_n 3, 1) := by decide +kernel
theorem dX11_count_4 : decode cX11_count 4 = .ok (.iconst 0, 1) := by decide +kernel
theorem dX11_count_5 : decode cX11_count 5 = .ok (.istore 4, 2) := by decide +kernel
theorem dX11_count_7 : decode cX11_count 7 = .ok (.iconst 0, 1) := by decide +kernel
theorem dX11_count_8 : decode cX11_count 8 = .ok (.istore 5, 2) := by decide +kernel
theorem dX11_count_10 : decode cX11_count 10 = .ok (.iload 5, 2) := by decide +kernel
theorem dX11_count_12 : decode cX11_count 12 = .ok (.aload_n 0, 1) := by decide +kernel
theorem dX11_count_13 : decode cX11_count 13 = .ok (.getfield 123, 3) := by decide +kernel
theorem dX11_count_16 : decode cX11_count 16 = .ok (.if_icmp .ge 55, 3) := by decide +kernel
theorem dX11_count_19 : decode cX11_count 19 = .ok (.iload_n 2, 1) := by decide +kernel
theorem dX11_count_20 : decode cX11_count 20 = .ok (.aload_n 0, 1) := by decide +kernel
theorem dX11_count_21 : decode cX11_count 21 = .ok (.getfield 16, 3) := by decide +kernel
theorem dX11_count_24 : decode cX11_count 24 = .ok (.iload 5, 2) := by decide +kernel
theorem dX11_count_26 : decode cX11_count 26 = .ok (.iaload, 1) := by decide +kernel
theorem dX11_count_27 : decode cX11_count 27 = .ok (.ifCond .le 7, 3) := by decide +kernel
theorem dX11_count_30 : decode cX11_count 30 = .ok (.iconst 1, 1) := by decide +kernel
theorem dX11_count_31 : decode cX11_count 31 = .ok (.goto 4, 3) := by decide +kernel
theorem dX11_count_34 : decode cX11_count 34 = .ok (.iconst 0, 1) := by decide +kernel
theorem dX11_count_35 : decode cX11_count 35 = .ok (.iadd, 1) := by decide +kernel
theorem dX11_count_36 : decode cX11_count 36 = .ok (.istore_n 2, 1) := by decide +kernel
theorem dX11_count_37 : decode cX11_count 37 = .ok (.iload_n 3, 1) := by decide +kernel
theorem dX11_count_38 : decode cX11_count 38 = .ok (.aload_n 0, 1) := by decide +kernel
theorem dX11_count_39 : decode cX11_count 39 = .ok (.getfield 16, 3) := by decide +kernel
theorem dX11_count_42 : decode cX11_count 42 = .ok (.iload 5, 2) := by decide +kernel
theorem dX11_count_44 : decode cX11_count 44 = .ok (.iaload, 1) := by decide +kernel
theorem dX11_count_45 : decode cX11_count 45 = .ok (.iadd, 1) := by decide +kernel
theorem dX11_count_46 : decode cX11_count 46 = .ok (.istore_n 3, 1) := by decide +kernel
theorem dX11_count_47 : decode cX11_count 47 = .ok (.iload 4, 2) := by decide +kernel
theorem dX11_count_49 : decode cX11_count 49 = .ok (.aload_n 0, 1) := by decide +kernel
theorem dX11_count_50 : decode cX11_count 50 = .ok (.getfield 46, 3) := by decide +kernel
theorem dX11_count_53 : decode cX11_count 53 = .ok (.bipush 21, 2) := by decide +kernel
theorem dX11_count_55 : decode cX11_count 55 = .ok (.iload 5, 2) := by decide +kernel
theorem dX11_count_57 : decode cX11_count 57 = .ok (.imul, 1) := by decide +kernel
theorem dX11_count_58 : decode cX11_count 58 = .ok (.bipush 16, 2) := by decide +kernel
theorem dX11_count_60 : decode cX11_count 60 = .ok (.iadd, 1) := by decide +kernel
theorem dX11_count_61 : decode cX11_count 61 = .ok (.iaload, 1) := by decide +kernel
theorem dX11_count_62 : decode cX11_count 62 = .ok (.iadd, 1) := by decide +kernel
theorem dX11_count_63 : decode cX11_count 63 = .ok (.istore 4, 2) := by decide +kernel
theorem dX11_count_65 : decode cX11_count 65 = .ok (.iinc 5 1, 3) := by decide +kernel
theorem dX11_count_68 : decode cX11_count 68 = .ok (.goto (-58), 3) := by decide +kernel
theorem dX11_count_71 : decode cX11_count 71 = .ok (.iload_n 1, 1) := by decide +kernel
theorem dX11_count_72 : decode cX11_count 72 = .ok (.tableswitch 71 0 6 #[44, 49, 51, 53, 56, 61, 66], 44) := by decide +kernel
theorem dX11_count_116 : decode cX11_count 116 = .ok (.aload_n 0, 1) := by decide +kernel
theorem dX11_count_117 : decode cX11_count 117 = .ok (.getfield 123, 3) := by decide +kernel
theorem dX11_count_120 : decode cX11_count 120 = .ok (.ireturn, 1) := by decide +kernel
theorem dX11_count_121 : decode cX11_count 121 = .ok (.iload_n 2, 1) := by decide +kernel
theorem dX11_count_122 : decode cX11_count 122 = .ok (.ireturn, 1) := by decide +kernel
theorem dX11_count_123 : decode cX11_count 123 = .ok (.iload_n 3, 1) := by decide +kernel
theorem dX11_count_124 : decode cX11_count 124 = .ok (.ireturn, 1) := by decide +kernel
theorem dX11_count_125 : decode cX11_count 125 = .ok (.iload 4, 2) := by decide +kernel
theorem dX11_count_127 : decode cX11_count 127 = .ok (.ireturn, 1) := by decide +kernel
theorem dX11_count_128 : decode cX11_count 128 = .ok (.aload_n 0, 1) := by decide +kernel
theorem dX11_count_129 : decode cX11_count 129 = .ok (.getfield 197, 3) := by decide +kernel
theorem dX11_count_132 : decode cX11_count 132 = .ok (.ireturn, 1) := by decide +kernel
theorem dX11_count_133 : decode cX11_count 133 = .ok (.aload_n 0, 1) := by decide +kernel
theorem dX11_count_134 : decode cX11_count 134 = .ok (.getfield 194, 3) := by decide +kernel
theorem dX11_count_137 : decode cX11_count 137 = .ok (.ireturn, 1) := by decide +kernel
theorem dX11_count_138 : decode cX11_count 138 = .ok (.aload_n 0, 1) := by decide +kernel
theorem dX11_count_139 : decode cX11_count 139 = .ok (.getfield 114, 3) := by decide +kernel
theorem dX11_count_142 : decode cX11_count 142 = .ok (.ireturn, 1) := by decide +kernel
theorem dX11_count_143 : decode cX11_count 143 = .ok (.iconst (-1), 1) := by decide +kernel
theorem dX11_count_144 : decode cX11_count 144 = .ok (.ireturn, 1) := by decide +kernel
