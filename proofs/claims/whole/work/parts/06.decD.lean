theorem dX12_init_0 : decode cX12_init 0 = .ok (.aload_n 0, 1) := by decide +kernel
theorem dX12_init_1 : decode cX12_init 1 = .ok (.invokespecial 3, 3) := by decide +kernel
theorem dX12_init_4 : decode cX12_init 4 = .ok (.aload_n 0, 1) := by decide +kernel
theorem dX12_init_5 : decode cX12_init 5 = .ok (.sipush 900, 3) := by decide +kernel
theorem dX12_init_8 : decode cX12_init 8 = .ok (.newarray .int, 2) := by decide +kernel
theorem dX12_init_10 : decode cX12_init 10 = .ok (.putfield 9, 3) := by decide +kernel
theorem dX12_init_13 : decode cX12_init 13 = .ok (.aload_n 0, 1) := by decide +kernel
theorem dX12_init_14 : decode cX12_init 14 = .ok (.bipush 8, 2) := by decide +kernel
theorem dX12_init_16 : decode cX12_init 16 = .ok (.newarray .int, 2) := by decide +kernel
theorem dX12_init_18 : decode cX12_init 18 = .ok (.putfield 15, 3) := by decide +kernel
theorem dX12_init_21 : decode cX12_init 21 = .ok (.aload_n 0, 1) := by decide +kernel
theorem dX12_init_22 : decode cX12_init 22 = .ok (.bipush 8, 2) := by decide +kernel
theorem dX12_init_24 : decode cX12_init 24 = .ok (.newarray .int, 2) := by decide +kernel
theorem dX12_init_26 : decode cX12_init 26 = .ok (.putfield 18, 3) := by decide +kernel
theorem dX12_init_29 : decode cX12_init 29 = .ok (.aload_n 0, 1) := by decide +kernel
theorem dX12_init_30 : decode cX12_init 30 = .ok (.bipush 6, 2) := by decide +kernel
theorem dX12_init_32 : decode cX12_init 32 = .ok (.newarray .int, 2) := by decide +kernel
theorem dX12_init_34 : decode cX12_init 34 = .ok (.putfield 21, 3) := by decide +kernel
theorem dX12_init_37 : decode cX12_init 37 = .ok (.aload_n 0, 1) := by decide +kernel
theorem dX12_init_38 : decode cX12_init 38 = .ok (.bipush 6, 2) := by decide +kernel
theorem dX12_init_40 : decode cX12_init 40 = .ok (.newarray .int, 2) := by decide +kernel
theorem dX12_init_42 : decode cX12_init 42 = .ok (.putfield 24, 3) := by decide +kernel
theorem dX12_init_45 : decode cX12_init 45 = .ok (.aload_n 0, 1) := by decide +kernel
theorem dX12_init_46 : decode cX12_init 46 = .ok (.bipush 6, 2) := by decide +kernel
theorem dX12_init_48 : decode cX12_init 48 = .ok (.newarray .int, 2) := by decide +kernel
theorem dX12_init_50 : decode cX12_init 50 = .ok (.putfield 27, 3) := by decide +kernel
theorem dX12_init_53 : decode cX12_init 53 = .ok (.aload_n 0, 1) := by decide +kernel
theorem dX12_init_54 : decode cX12_init 54 = .ok (.bipush 10, 2) := by decide +kernel
theorem dX12_init_56 : decode cX12_init 56 = .ok (.newarray .int, 2) := by decide +kernel
theorem dX12_init_58 : decode cX12_init 58 = .ok (.putfield 30, 3) := by decide +kernel
theorem dX12_init_61 : decode cX12_init 61 = .ok (.aload_n 0, 1) := by decide +kernel
theorem dX12_init_62 : decode cX12_init 62 = .ok (.bipush 10, 2) := by decide +kernel
theorem dX12_init_64 : decode cX12_init 64 = .ok (.newarray .int, 2) := by decide +kernel
theorem dX12_init_66 : decode cX12_init 66 = .ok (.putfield 33, 3) := by decide +kernel
theorem dX12_init_69 : decode cX12_init 69 = .ok (.aload_n 0, 1) := by decide +kernel
theorem dX12_init_70 : decode cX12_init 70 = .ok (.bipush 10, 2) := by decide +kernel
theorem dX12_init_72 : decode cX12_init 72 = .ok (.newarray .int, 2) := by decide +kernel
theorem dX12_init_74 : decode cX12_init 74 = .ok (.putfield 36, 3) := by decide +kernel
theorem dX12_init_77 : decode cX12_init 77 = .ok (.aload_n 0, 1) := by decide +kernel
theorem dX12_init_78 : decode cX12_init 78 = .ok (.bipush 10, 2) := by decide +kernel
theorem dX12_init_80 : decode cX12_init 80 = .ok (.newarray .int, 2) := by decide +kernel
theorem dX12_init_82 : decode cX12_init 82 = .ok (.putfield 39, 3) := by decide +kernel
theorem dX12_init_85 : decode cX12_init 85 = .ok (.aload_n 0, 1) := by decide +kernel
theorem dX12_init_86 : decode cX12_init 86 = .ok (.bipush 10, 2) := by decide +kernel
theorem dX12_init_88 : decode cX12_init 88 = .ok (.newarray .int, 2) := by decide +kernel
theorem dX12_init_90 : decode cX12_init 90 = .ok (.putfield 42, 3) := by decide +kernel
theorem dX12_init_93 : decode cX12_init 93 = .ok (.aload_n 0, 1) := by decide +kernel
theorem dX12_init_94 : decode cX12_init 94 = .ok (.bipush 10, 2) := by decide +kernel
theorem dX12_init_96 : decode cX12_init 96 = .ok (.newarray .int, 2) := by decide +kernel
theorem dX12_init_98 : decode cX12_init 98 = .ok (.putfield 45, 3) := by decide +kernel
theorem dX12_init_101 : decode cX12_init 101 = .ok (.aload_n 0, 1) := by decide +kernel
theorem dX12_init_102 : decode cX12_init 102 = .ok (.bipush 120, 2) := by decide +kernel
theorem dX12_init_104 : decode cX12_init 104 = .ok (.newarray .int, 2) := by decide +kernel
theorem dX12_init_106 : decode cX12_init 106 = .ok (.putfield 48, 3) := by decide +kernel
theorem dX12_init_109 : decode cX12_init 109 = .ok (.aload_n 0, 1) := by decide +kernel
theorem dX12_init_110 : decode cX12_init 110 = .ok (.bipush 120, 2) := by decide +kernel
theorem dX12_init_112 : decode cX12_init 112 = .ok (.newarray .int, 2) := by decide +kernel
theorem dX12_init_114 : decode cX12_init 114 = .ok (.putfield 51, 3) := by decide +kernel
theorem dX12_init_117 : decode cX12_init 117 = .ok (.aload_n 0, 1) := by decide +kernel
theorem dX12_init_118 : decode cX12_init 118 = .ok (.bipush 6, 2) := by decide +kernel
theorem dX12_init_120 : decode cX12_init 120 = .ok (.newarray .int, 2) := by decide +kernel
theorem dX12_init_122 : decode cX12_init 122 = .ok (.putfield 54, 3) := by decide +kernel
theorem dX12_init_125 : decode cX12_init 125 = .ok (.aload_n 0, 1) := by decide +kernel
theorem dX12_init_126 : decode cX12_init 126 = .ok (.bipush 6, 2) := by decide +kernel
theorem dX12_init_128 : decode cX12_init 128 = .ok (.newarray .int, 2) := by decide +kernel
theorem dX12_init_130 : decode cX12_init 130 = .ok (.putfield 57, 3) := by decide +kernel
theorem dX12_init_133 : decode cX12_init 133 = .ok (.aload_n 0, 1) := by decide +kernel
theorem dX12_init_134 : decode cX12_init 134 = .ok (.bipush 6, 2) := by decide +kernel
theorem dX12_init_136 : decode cX12_init 136 = .ok (.newarray .int, 2) := by decide +kernel
theorem dX12_init_138 : decode cX12_init 138 = .ok (.putfield 60, 3) := by decide +kernel
theorem dX12_init_141 : decode cX12_init 141 = .ok (.aload_n 0, 1) := by decide +kernel
theorem dX12_init_142 : decode cX12_init 142 = .ok (.bipush 6, 2) := by decide +kernel
theorem dX12_init_144 : decode cX12_init 144 = .ok (.newarray .int, 2) := by decide +kernel
theorem dX12_init_146 : decode cX12_init 146 = .ok (.putfield 63, 3) := by decide +kernel
theorem dX12_init_149 : decode cX12_init 149 = .ok (.aload_n 0, 1) := by decide +kernel
theorem dX12_init_150 : decode cX12_init 150 = .ok (.bipush 20, 2) := by decide +kernel
theorem dX12_init_152 : decode cX12_init 152 = .ok (.newarray .int, 2) := by decide +kernel
theorem dX12_init_154 : decode cX12_init 154 = .ok (.putfield 66, 3) := by decide +kernel
theorem dX12_init_157 : decode cX12_init 157 = .ok (.aload_n 0, 1) := by decide +kernel
theorem dX12_init_158 : decode cX12_init 158 = .ok (.bipush 20, 2) := by decide +kernel
theorem dX12_init_160 : decode cX12_init 160 = .ok (.newarray .int, 2) := by decide +kernel
theorem dX12_init_162 : decode cX12_init 162 = .ok (.putfield 69, 3) := by decide +kernel
theorem dX12_init_165 : decode cX12_init 165 = .ok (.aload_n 0, 1) := by decide +kernel
theorem dX12_init_166 : decode cX12_init 166 = .ok (.bipush 20, 2) := by decide +kernel
theorem dX12_init_168 : decode cX12_init 168 = .ok (.newarray .int, 2) := by decide +kernel
theorem dX12_init_170 : decode cX12_init 170 = .ok (.putfield 72, 3) := by decide +kernel
theorem dX12_init_173 : decode cX12_init 173 = .ok (.aload_n 0, 1) := by decide +kernel
theorem dX12_init_174 : decode cX12_init 174 = .ok (.bipush 20, 2) := by decide +kernel
theorem dX12_init_176 : decode cX12_init 176 = .ok (.newarray .int, 2) := by decide +kernel
theorem dX12_init_178 : decode cX12_init 178 = .ok (.putfield 75, 3) := by decide +kernel
theorem dX12_init_181 : decode cX12_init 181 = .ok (.aload_n 0, 1) := by decide +kernel
theorem dX12_init_182 : decode cX12_init 182 = .ok (.bipush 20, 2) := by decide +kernel
theorem dX12_init_184 : decode cX12_init 184 = .ok (.newarray .int, 2) := by decide +kernel
theorem dX12_init_186 : decode cX12_init 186 = .ok (.putfield 78, 3) := by decide +kernel
theorem dX12_init_189 : decode cX12_init 189 = .ok (.aload_n 0, 1) := by decide +kernel
theorem dX12_init_190 : decode cX12_init 190 = .ok (.bipush 20, 2) := by decide +kernel
theorem dX12_init_192 : decode cX12_init 192 = .ok (.newarray .int, 2) := by decide +kernel
theorem dX12_init_194 : decode cX12_init 194 = .ok (.putfield 81, 3) := by decide +kernel
theorem dX12_init_197 : decode cX12_init 197 = .ok (.aload_n 0, 1) := by decide +kernel
theorem dX12_init_198 : decode cX12_init 198 = .ok (.bipush 20, 2) := by decide +kernel
theorem dX12_init_200 : decode cX12_init 200 = .ok (.newarray .int, 2) := by decide +kernel
theorem dX12_init_202 : decode cX12_init 202 = .ok (.putfield 84, 3) := by decide +kernel
theorem dX12_init_205 : decode cX12_init 205 = .ok (.aload_n 0, 1) := by decide +kernel
theorem dX12_init_206 : decode cX12_init 206 = .ok (.bipush 20, 2) := by decide +kernel
theorem dX12_init_208 : decode cX12_init 208 = .ok (.newarray .int, 2) := by decide +kernel
theorem dX12_init_210 : decode cX12_init 210 = .ok (.putfield 87, 3) := by decide +kernel
theorem dX12_init_213 : decode cX12_init 213 = .ok (.aload_n 0, 1) := by decide +kernel
theorem dX12_init_214 : decode cX12_init 214 = .ok (.bipush 20, 2) := by decide +kernel
theorem dX12_init_216 : decode cX12_init 216 = .ok (.newarray .boolean, 2) := by decide +kernel
theorem dX12_init_218 : decode cX12_init 218 = .ok (.putfield 90, 3) := by decide +kernel
theorem dX12_init_221 : decode cX12_init 221 = .ok (.aload_n 0, 1) := by decide +kernel
theorem dX12_init_222 : decode cX12_init 222 = .ok (.bipush 20, 2) := by decide +kernel
theorem dX12_init_224 : decode cX12_init 224 = .ok (.newarray .int, 2) := by decide +kernel
theorem dX12_init_226 : decode cX12_init 226 = .ok (.putfield 94, 3) := by decide +kernel
theorem dX12_init_229 : decode cX12_init 229 = .ok (.aload_n 0, 1) := by decide +kernel
theorem dX12_init_230 : decode cX12_init 230 = .ok (.bipush 20, 2) := by decide +kernel
theorem dX12_init_232 : decode cX12_init 232 = .ok (.newarray .int, 2) := by decide +kernel
theorem dX12_init_234 : decode cX12_init 234 = .ok (.putfield 97, 3) := by decide +kernel
theorem dX12_init_237 : decode cX12_init 237 = .ok (.aload_n 0, 1) := by decide +kernel
theorem dX12_init_238 : decode cX12_init 238 = .ok (.sipush 400, 3) := by decide +kernel
theorem dX12_init_241 : decode cX12_init 241 = .ok (.newarray .boolean, 2) := by decide +kernel
theorem dX12_init_243 : decode cX12_init 243 = .ok (.putfield 100, 3) := by decide +kernel
theorem dX12_init_246 : decode cX12_init 246 = .ok (.aload_n 0, 1) := by decide +kernel
theorem dX12_init_247 : decode cX12_init 247 = .ok (.sipush 128, 3) := by decide +kernel
theorem dX12_init_250 : decode cX12_init 250 = .ok (.newarray .int, 2) := by decide +kernel
theorem dX12_init_252 : decode cX12_init 252 = .ok (.putfield 103, 3) := by decide +kernel
theorem dX12_init_255 : decode cX12_init 255 = .ok (.aload_n 0, 1) := by decide +kernel
theorem dX12_init_256 : decode cX12_init 256 = .ok (.sipush 128, 3) := by decide +kernel
theorem dX12_init_259 : decode cX12_init 259 = .ok (.newarray .int, 2) := by decide +kernel
theorem dX12_init_261 : decode cX12_init 261 = .ok (.putfield 106, 3) := by decide +kernel
theorem dX12_init_264 : decode cX12_init 264 = .ok (.aload_n 0, 1) := by decide +kernel
theorem dX12_init_265 : decode cX12_init 265 = .ok (.iconst (-1), 1) := by decide +kernel
theorem dX12_init_266 : decode cX12_init 266 = .ok (.putfield 109, 3) := by decide +kernel
theorem dX12_init_269 : decode cX12_init 269 = .ok (.aload_n 0, 1) := by decide +kernel
theorem dX12_init_270 : decode cX12_init 270 = .ok (.sipush 756, 3) := by decide +kernel
theorem dX12_init_273 : decode cX12_init 273 = .ok (.newarray .int, 2) := by decide +kernel
theorem dX12_init_275 : decode cX12_init 275 = .ok (.putfield 113, 3) := by decide +kernel
theorem dX12_init_278 : decode cX12_init 278 = .ok (.aload_n 0, 1) := by decide +kernel
theorem dX12_init_279 : decode cX12_init 279 = .ok (.sipush 756, 3) := by decide +kernel
theorem dX12_init_282 : decode cX12_init 282 = .ok (.newarray .int, 2) := by decide +kernel
theorem dX12_init_284 : decode cX12_init 284 = .ok (.putfield 116, 3) := by decide +kernel
theorem dX12_init_287 : decode cX12_init 287 = .ok (.aload_n 0, 1) := by decide +kernel
theorem dX12_init_288 : decode cX12_init 288 = .ok (.sipush 4096, 3) := by decide +kernel
theorem dX12_init_291 : decode cX12_init 291 = .ok (.newarray .int, 2) := by decide +kernel
theorem dX12_init_293 : decode cX12_init 293 = .ok (.putfield 119, 3) := by decide +kernel
theorem dX12_init_296 : decode cX12_init 296 = .ok (.aload_n 0, 1) := by decide +kernel
theorem dX12_init_297 : decode cX12_init 297 = .ok (.bipush 12, 2) := by decide +kernel
theorem dX12_init_299 : decode cX12_init 299 = .ok (.newarray .int, 2) := by decide +kernel
theorem dX12_init_301 : decode cX12_init 301 = .ok (.putfield 122, 3) := by decide +kernel
theorem dX12_init_304 : decode cX12_init 304 = .ok (.aload_n 0, 1) := by decide +kernel
theorem dX12_init_305 : decode cX12_init 305 = .ok (.bipush 20, 2) := by decide +kernel
theorem dX12_init_307 : decode cX12_init 307 = .ok (.newarray .int, 2) := by decide +kernel
theorem dX12_init_309 : decode cX12_init 309 = .ok (.putfield 125, 3) := by decide +kernel
theorem dX12_init_312 : decode cX12_init 312 = .ok (.aload_n 0, 1) := by decide +kernel
theorem dX12_init_313 : decode cX12_init 313 = .ok (.bipush 20, 2) := by decide +kernel
theorem dX12_init_315 : decode cX12_init 315 = .ok (.newarray .int, 2) := by decide +kernel
theorem dX12_init_317 : decode cX12_init 317 = .ok (.putfield 128, 3) := by decide +kernel
theorem dX12_init_320 : decode cX12_init 320 = .ok (.aload_n 0, 1) := by decide +kernel
theorem dX12_init_321 : decode cX12_init 321 = .ok (.bipush 20, 2) := by decide +kernel
theorem dX12_init_323 : decode cX12_init 323 = .ok (.newarray .int, 2) := by decide +kernel
theorem dX12_init_325 : decode cX12_init 325 = .ok (.putfield 131, 3) := by decide +kernel
theorem dX12_init_328 : decode cX12_init 328 = .ok (.aload_n 0, 1) := by decide +kernel
theorem dX12_init_329 : decode cX12_init 329 = .ok (.bipush 20, 2) := by decide +kernel
theorem dX12_init_331 : decode cX12_init 331 = .ok (.newarray .int, 2) := by decide +kernel
theorem dX12_init_333 : decode cX12_init 333 = .ok (.putfield 134, 3) := by decide +kernel
theorem dX12_init_336 : decode cX12_init 336 = .ok (.aload_n 0, 1) := by decide +kernel
theorem dX12_init_337 : decode cX12_init 337 = .ok (.bipush 20, 2) := by decide +kernel
theorem dX12_init_339 : decode cX12_init 339 = .ok (.newarray .int, 2) := by decide +kernel
theorem dX12_init_341 : decode cX12_init 341 = .ok (.putfield 137, 3) := by decide +kernel
theorem dX12_init_344 : decode cX12_init 344 = .ok (.aload_n 0, 1) := by decide +kernel
theorem dX12_init_345 : decode cX12_init 345 = .ok (.bipush 20, 2) := by decide +kernel
theorem dX12_init_347 : decode cX12_init 347 = .ok (.newarray .int, 2) := by decide +kernel
theorem dX12_init_349 : decode cX12_init 349 = .ok (.putfield 140, 3) := by decide +kernel
theorem dX12_init_352 : decode cX12_init 352 = .ok (.aload_n 0, 1) := by decide +kernel
theorem dX12_init_353 : decode cX12_init 353 = .ok (.bipush 20, 2) := by decide +kernel
theorem dX12_init_355 : decode cX12_init 355 = .ok (.newarray .int, 2) := by decide +kernel
theorem dX12_init_357 : decode cX12_init 357 = .ok (.putfield 143, 3) := by decide +kernel
theorem dX12_init_360 : decode cX12_init 360 = .ok (.aload_n 0, 1) := by decide +kernel
theorem dX12_init_361 : decode cX12_init 361 = .ok (.bipush 20, 2) := by decide +kernel
theorem dX12_init_363 : decode cX12_init 363 = .ok (.newarray .int, 2) := by decide +kernel
theorem dX12_init_365 : decode cX12_init 365 = .ok (.putfield 146, 3) := by decide +kernel
theorem dX12_init_368 : decode cX12_init 368 = .ok (.aload_n 0, 1) := by decide +kernel
theorem dX12_init_369 : decode cX12_init 369 = .ok (.sipush 600, 3) := by decide +kernel
theorem dX12_init_372 : decode cX12_init 372 = .ok (.newarray .int, 2) := by decide +kernel
theorem dX12_init_374 : decode cX12_init 374 = .ok (.putfield 149, 3) := by decide +kernel
theorem dX12_init_377 : decode cX12_init 377 = .ok (.aload_n 0, 1) := by decide +kernel
theorem dX12_init_378 : decode cX12_init 378 = .ok (.sipush 400, 3) := by decide +kernel
theorem dX12_init_381 : decode cX12_init 381 = .ok (.newarray .int, 2) := by decide +kernel
theorem dX12_init_383 : decode cX12_init 383 = .ok (.putfield 152, 3) := by decide +kernel
theorem dX12_init_386 : decode cX12_init 386 = .ok (.aload_n 0, 1) := by decide +kernel
theorem dX12_init_387 : decode cX12_init 387 = .ok (.sipush 4000, 3) := by decide +kernel
theorem dX12_init_390 : decode cX12_init 390 = .ok (.newarray .int, 2) := by decide +kernel
theorem dX12_init_392 : decode cX12_init 392 = .ok (.putfield 155, 3) := by decide +kernel
theorem dX12_init_395 : decode cX12_init 395 = .ok (.aload_n 0, 1) := by decide +kernel
theorem dX12_init_396 : decode cX12_init 396 = .ok (.sipush 4000, 3) := by decide +kernel
theorem dX12_init_399 : decode cX12_init 399 = .ok (.newarray .int, 2) := by decide +kernel
theorem dX12_init_401 : decode cX12_init 401 = .ok (.putfield 158, 3) := by decide +kernel
theorem dX12_init_404 : decode cX12_init 404 = .ok (.aload_n 0, 1) := by decide +kernel
theorem dX12_init_405 : decode cX12_init 405 = .ok (.bipush 120, 2) := by decide +kernel
theorem dX12_init_407 : decode cX12_init 407 = .ok (.newarray .int, 2) := by decide +kernel
theorem dX12_init_409 : decode cX12_init 409 = .ok (.putfield 161, 3) := by decide +kernel
theorem dX12_init_412 : decode cX12_init 412 = .ok (.aload_n 0, 1) := by decide +kernel
theorem dX12_init_413 : decode cX12_init 413 = .ok (.bipush 120, 2) := by decide +kernel
theorem dX12_init_415 : decode cX12_init 415 = .ok (.newarray .int, 2) := by decide +kernel
theorem dX12_init_417 : decode cX12_init 417 = .ok (.putfield 164, 3) := by decide +kernel
theorem dX12_init_420 : decode cX12_init 420 = .ok (.aload_n 0, 1) := by decide +kernel
theorem dX12_init_421 : decode cX12_init 421 = .ok (.bipush 60, 2) := by decide +kernel
theorem dX12_init_423 : decode cX12_init 423 = .ok (.newarray .boolean, 2) := by decide +kernel
theorem dX12_init_425 : decode cX12_init 425 = .ok (.putfield 167, 3) := by decide +kernel
theorem dX12_init_428 : decode cX12_init 428 = .ok (.aload_n 0, 1) := by decide +kernel
theorem dX12_init_429 : decode cX12_init 429 = .ok (.iconst 5, 1) := by decide +kernel
theorem dX12_init_430 : decode cX12_init 430 = .ok (.newarray .int, 2) := by decide +kernel
theorem dX12_init_432 : decode cX12_init 432 = .ok (.putfield 170, 3) := by decide +kernel
theorem dX12_init_435 : decode cX12_init 435 = .ok (.aload_n 0, 1) := by decide +kernel
theorem dX12_init_436 : decode cX12_init 436 = .ok (.bipush 64, 2) := by decide +kernel
theorem dX12_init_438 : decode cX12_init 438 = .ok (.newarray .long, 2) := by decide +kernel
theorem dX12_init_440 : decode cX12_init 440 = .ok (.putfield 173, 3) := by decide +kernel
theorem dX12_init_443 : decode cX12_init 443 = .ok (.aload_n 0, 1) := by decide +kernel
theorem dX12_init_444 : decode cX12_init 444 = .ok (.bipush 10, 2) := by decide +kernel
theorem dX12_init_446 : decode cX12_init 446 = .ok (.newarray .int, 2) := by decide +kernel
theorem dX12_init_448 : decode cX12_init 448 = .ok (.putfield 177, 3) := by decide +kernel
theorem dX12_init_451 : decode cX12_init 451 = .ok (.aload_n 0, 1) := by decide +kernel
theorem dX12_init_452 : decode cX12_init 452 = .ok (.sipush 896, 3) := by decide +kernel
theorem dX12_init_455 : decode cX12_init 455 = .ok (.newarray .int, 2) := by decide +kernel
theorem dX12_init_457 : decode cX12_init 457 = .ok (.putfield 180, 3) := by decide +kernel
theorem dX12_init_460 : decode cX12_init 460 = .ok (.aload_n 0, 1) := by decide +kernel
theorem dX12_init_461 : decode cX12_init 461 = .ok (.bipush 10, 2) := by decide +kernel
theorem dX12_init_463 : decode cX12_init 463 = .ok (.newarray .int, 2) := by decide +kernel
theorem dX12_init_465 : decode cX12_init 465 = .ok (.putfield 183, 3) := by decide +kernel
theorem dX12_init_468 : decode cX12_init 468 = .ok (.aload_n 0, 1) := by decide +kernel
theorem dX12_init_469 : decode cX12_init 469 = .ok (.bipush 10, 2) := by decide +kernel
theorem dX12_init_471 : decode cX12_init 471 = .ok (.newarray .int, 2) := by decide +kernel
theorem dX12_init_473 : decode cX12_init 473 = .ok (.putfield 186, 3) := by decide +kernel
theorem dX12_init_476 : decode cX12_init 476 = .ok (.aload_n 0, 1) := by decide +kernel
theorem dX12_init_477 : decode cX12_init 477 = .ok (.bipush 10, 2) := by decide +kernel
theorem dX12_init_479 : decode cX12_init 479 = .ok (.newarray .int, 2) := by decide +kernel
theorem dX12_init_481 : decode cX12_init 481 = .ok (.putfield 189, 3) := by decide +kernel
theorem dX12_init_484 : decode cX12_init 484 = .ok (.aload_n 0, 1) := by decide +kernel
theorem dX12_init_485 : decode cX12_init 485 = .ok (.iconst 3, 1) := by decide +kernel
theorem dX12_init_486 : decode cX12_init 486 = .ok (.newarray .int, 2) := by decide +kernel
theorem dX12_init_488 : decode cX12_init 488 = .ok (.putfield 192, 3) := by decide +kernel
theorem dX12_init_491 : decode cX12_init 491 = .ok (.return_, 1) := by decide +kernel
theorem dX12_thrown_0 : decode cX12_thrown 0 = .ok (.aload_n 0, 1) := by decide +kernel
theorem dX12_thrown_1 : decode cX12_thrown 1 = .ok (.getfield 195, 3) := by decide +kernel
theorem dX12_thrown_4 : decode cX12_thrown 4 = .ok (.ireturn, 1) := by decide +kernel
theorem dX12_feed_0 : decode cX12_feed 0 = .ok (.aload_n 0, 1) := by decide +kernel
theorem dX12_feed_1 : decode cX12_feed 1 = .ok (.iconst 0, 1) := by decide +kernel
theorem dX12_feed_2 : decode cX12_feed 2 = .ok (.putfield 195, 3) := by decide +kernel
theorem dX12_feed_5 : decode cX12_feed 5 = .ok (.aload_n 0, 1) := by decide +kernel
theorem dX12_feed_6 : decode cX12_feed 6 = .ok (.getfield 198, 3) := by decide +kernel
theorem dX12_feed_9 : decode cX12_feed 9 = .ok (.sipush 880, 3) := by decide +kernel
theorem dX12_feed_12 : decode cX12_feed 12 = .ok (.if_icmp .le 5, 3) := by decide +kernel
theorem dX12_feed_15 : decode cX12_feed 15 = .ok (.iconst (-1), 1) := by decide +kernel
theorem dX12_feed_16 : decode cX12_feed 16 = .ok (.ireturn, 1) := by decide +kernel
theorem dX12_feed_17 : decode cX12_feed 17 = .ok (.iconst 0, 1) := by decide +kernel
theorem dX12_feed_18 : decode cX12_feed 18 = .ok (.istore 6, 2) := by decide +kernel
theorem dX12_feed_20 : decode cX12_feed 20 = .ok (.iload 6, 2) := by decide +kernel
theorem dX12_feed_22 : decode cX12_feed 22 = .ok (.bipush 20, 2) := by decide +kernel
theorem dX12_feed_24 : decode cX12_feed 24 = .ok (.if_icmp .ge 86, 3) := by decide +kernel
theorem dX12_feed_27 : decode cX12_feed 27 = .ok (.iload 6, 2) := by decide +kernel
theorem dX12_feed_29 : decode cX12_feed 29 = .ok (.iconst 4, 1) := by decide +kernel
theorem dX12_feed_30 : decode cX12_feed 30 = .ok (.if_icmp .ge 7, 3) := by decide +kernel
theorem dX12_feed_33 : decode cX12_feed 33 = .ok (.iload_n 1, 1) := by decide +kernel
theorem dX12_feed_34 : decode cX12_feed 34 = .ok (.goto 39, 3) := by decide +kernel
theorem dX12_feed_37 : decode cX12_feed 37 = .ok (.iload 6, 2) := by decide +kernel
theorem dX12_feed_39 : decode cX12_feed 39 = .ok (.bipush 8, 2) := by decide +kernel
theorem dX12_feed_41 : decode cX12_feed 41 = .ok (.if_icmp .ge 7, 3) := by decide +kernel
theorem dX12_feed_44 : decode cX12_feed 44 = .ok (.iload_n 2, 1) := by decide +kernel
theorem dX12_feed_45 : decode cX12_feed 45 = .ok (.goto 28, 3) := by decide +kernel
theorem dX12_feed_48 : decode cX12_feed 48 = .ok (.iload 6, 2) := by decide +kernel
theorem dX12_feed_50 : decode cX12_feed 50 = .ok (.bipush 12, 2) := by decide +kernel
theorem dX12_feed_52 : decode cX12_feed 52 = .ok (.if_icmp .ge 7, 3) := by decide +kernel
theorem dX12_feed_55 : decode cX12_feed 55 = .ok (.iload_n 3, 1) := by decide +kernel
theorem dX12_feed_56 : decode cX12_feed 56 = .ok (.goto 17, 3) := by decide +kernel
theorem dX12_feed_59 : decode cX12_feed 59 = .ok (.iload 6, 2) := by decide +kernel
theorem dX12_feed_61 : decode cX12_feed 61 = .ok (.bipush 16, 2) := by decide +kernel
theorem dX12_feed_63 : decode cX12_feed 63 = .ok (.if_icmp .ge 8, 3) := by decide +kernel
theorem dX12_feed_66 : decode cX12_feed 66 = .ok (.iload 4, 2) := by decide +kernel
theorem dX12_feed_68 : decode cX12_feed 68 = .ok (.goto 5, 3) := by decide +kernel
theorem dX12_feed_71 : decode cX12_feed 71 = .ok (.iload 5, 2) := by decide +kernel
theorem dX12_feed_73 : decode cX12_feed 73 = .ok (.istore 7, 2) := by decide +kernel
theorem dX12_feed_75 : decode cX12_feed 75 = .ok (.aload_n 0, 1) := by decide +kernel
theorem dX12_feed_76 : decode cX12_feed 76 = .ok (.getfield 9, 3) := by decide +kernel
theorem dX12_feed_79 : decode cX12_feed 79 = .ok (.aload_n 0, 1) := by decide +kernel
theorem dX12_feed_80 : decode cX12_feed 80 = .ok (.getfield 198, 3) := by decide +kernel
theorem dX12_feed_83 : decode cX12_feed 83 = .ok (.iload 6, 2) := by decide +kernel
theorem dX12_feed_85 : decode cX12_feed 85 = .ok (.iadd, 1) := by decide +kernel
theorem dX12_feed_86 : decode cX12_feed 86 = .ok (.iload 7, 2) := by decide +kernel
theorem dX12_feed_88 : decode cX12_feed 88 = .ok (.bipush 24, 2) := by decide +kernel
theorem dX12_feed_90 : decode cX12_feed 90 = .ok (.bipush 8, 2) := by decide +kernel
theorem dX12_feed_92 : decode cX12_feed 92 = .ok (.iload 6, 2) := by decide +kernel
theorem dX12_feed_94 : decode cX12_feed 94 = .ok (.iconst 4, 1) := by decide +kernel
theorem dX12_feed_95 : decode cX12_feed 95 = .ok (.irem, 1) := by decide +kernel
theorem dX12_feed_96 : decode cX12_feed 96 = .ok (.imul, 1) := by decide +kernel
theorem dX12_feed_97 : decode cX12_feed 97 = .ok (.isub, 1) := by decide +kernel
theorem dX12_feed_98 : decode cX12_feed 98 = .ok (.ishr, 1) := by decide +kernel
theorem dX12_feed_99 : decode cX12_feed 99 = .ok (.sipush 255, 3) := by decide +kernel
theorem dX12_feed_102 : decode cX12_feed 102 = .ok (.iand, 1) := by decide +kernel
theorem dX12_feed_103 : decode cX12_feed 103 = .ok (.iastore, 1) := by decide +kernel
theorem dX12_feed_104 : decode cX12_feed 104 = .ok (.iinc 6 1, 3) := by decide +kernel
theorem dX12_feed_107 : decode cX12_feed 107 = .ok (.goto (-87), 3) := by decide +kernel
theorem dX12_feed_110 : decode cX12_feed 110 = .ok (.aload_n 0, 1) := by decide +kernel
theorem dX12_feed_111 : decode cX12_feed 111 = .ok (.dup, 1) := by decide +kernel
theorem dX12_feed_112 : decode cX12_feed 112 = .ok (.getfield 198, 3) := by decide +kernel
theorem dX12_feed_115 : decode cX12_feed 115 = .ok (.bipush 20, 2) := by decide +kernel
theorem dX12_feed_117 : decode cX12_feed 117 = .ok (.iadd, 1) := by decide +kernel
theorem dX12_feed_118 : decode cX12_feed 118 = .ok (.putfield 198, 3) := by decide +kernel
theorem dX12_feed_121 : decode cX12_feed 121 = .ok (.aload_n 0, 1) := by decide +kernel
theorem dX12_feed_122 : decode cX12_feed 122 = .ok (.getfield 198, 3) := by decide +kernel
theorem dX12_feed_125 : decode cX12_feed 125 = .ok (.ireturn, 1) := by decide +kernel
theorem dX12_here_0 : decode cX12_here 0 = .ok (.aload_n 0, 1) := by decide +kernel
theorem dX12_here_1 : decode cX12_here 1 = .ok (.getfield 201, 3) := by decide +kernel
theorem dX12_here_4 : decode cX12_here 4 = .ok (.aload_n 0, 1) := by decide +kernel
theorem dX12_here_5 : decode cX12_here 5 = .ok (.getfield 204, 3) := by decide +kernel
theorem dX12_here_8 : decode cX12_here 8 = .ok (.if_icmp .ge 15, 3) := by decide +kernel
theorem dX12_here_11 : decode cX12_here 11 = .ok (.aload_n 0, 1) := by decide +kernel
theorem dX12_here_12 : decode cX12_here 12 = .ok (.getfield 9, 3) := by decide +kernel
theorem dX12_here_15 : decode cX12_here 15 = .ok (.aload_n 0, 1) := by decide +kernel
theorem dX12_here_16 : decode cX12_here 16 = .ok (.getfield 201, 3) := by decide +kernel
theorem dX12_here_19 : decode cX12_here 19 = .ok (.iaload, 1) := by decide +kernel
theorem dX12_here_20 : decode cX12_here 20 = .ok (.goto 4, 3) := by decide +kernel
theorem dX12_here_23 : decode cX12_here 23 = .ok (.iconst (-1), 1) := by decide +kernel
theorem dX12_here_24 : decode cX12_here 24 = .ok (.ireturn, 1) := by decide +kernel
theorem dX12_isSmall_0 : decode cX12_isSmall 0 = .ok (.iload_n 0, 1) := by decide +kernel
theorem dX12_isSmall_1 : decode cX12_isSmall 1 = .ok (.bipush 97, 2) := by decide +kernel
theorem dX12_isSmall_3 : decode cX12_isSmall 3 = .ok (.if_icmp .lt 13, 3) := by decide +kernel
theorem dX12_isSmall_6 : decode cX12_isSmall 6 = .ok (.iload_n 0, 1) := by decide +kernel
theorem dX12_isSmall_7 : decode cX12_isSmall 7 = .ok (.bipush 122, 2) := by decide +kernel
theorem dX12_isSmall_9 : decode cX12_isSmall 9 = .ok (.if_icmp .gt 7, 3) := by decide +kernel
theorem dX12_isSmall_12 : decode cX12_isSmall 12 = .ok (.iconst 1, 1) := by decide +kernel
theorem dX12_isSmall_13 : decode cX12_isSmall 13 = .ok (.goto 4, 3) := by decide +kernel
theorem dX12_isSmall_16 : decode cX12_isSmall 16 = .ok (.iconst 0, 1) := by decide +kernel
theorem dX12_isSmall_17 : decode cX12_isSmall 17 = .ok (.ireturn, 1) := by decide +kernel
theorem dX12_isDigit_0 : decode cX12_isDigit 0 = .ok (.iload_n 0, 1) := by decide +kernel
theorem dX12_isDigit_1 : decode cX12_isDigit 1 = .ok (.bipush 48, 2) := by decide +kernel
theorem dX12_isDigit_3 : decode cX12_isDigit 3 = .ok (.if_icmp .lt 13, 3) := by decide +kernel
theorem dX12_isDigit_6 : decode cX12_isDigit 6 = .ok (.iload_n 0, 1) := by decide +kernel
theorem dX12_isDigit_7 : decode cX12_isDigit 7 = .ok (.bipush 57, 2) := by decide +kernel
theorem dX12_isDigit_9 : decode cX12_isDigit 9 = .ok (.if_icmp .gt 7, 3) := by decide +kernel
theorem dX12_isDigit_12 : decode cX12_isDigit 12 = .ok (.iconst 1, 1) := by decide +kernel
theorem dX12_isDigit_13 : decode cX12_isDigit 13 = .ok (.goto 4, 3) := by decide +kernel
theorem dX12_isDigit_16 : decode cX12_isDigit 16 = .ok (.iconst 0, 1) := by decide +kernel
theorem dX12_isDigit_17 : decode cX12_isDigit 17 = .ok (.ireturn, 1) := by decide +kernel
theorem dX12_token_0 : decode cX12_token 0 = .ok (.aload_n 0, 1) := by decide +kernel
theorem dX12_token_1 : decode cX12_token 1 = .ok (.invokevirtual 207, 3) := by decide +kernel
theorem dX12_token_4 : decode cX12_token 4 = .ok (.bipush 10, 2) := by decide +kernel
theorem dX12_token_6 : decode cX12_token 6 = .ok (.if_icmp .eq 12, 3) := by decide +kernel
theorem dX12_token_9 : decode cX12_token 9 = .ok (.aload_n 0, 1) := by decide +kernel
theorem dX12_token_10 : decode cX12_token 10 = .ok (.invokevirtual 207, 3) := by decide +kernel
theorem dX12_token_13 : decode cX12_token 13 = .ok (.bipush 32, 2) := by decide +kernel
theorem dX12_token_15 : decode cX12_token 15 = .ok (.if_icmp .ne 16, 3) := by decide +kernel
theorem dX12_token_18 : decode cX12_token 18 = .ok (.aload_n 0, 1) := by decide +kernel
theorem dX12_token_19 : decode cX12_token 19 = .ok (.dup, 1) := by decide +kernel
theorem dX12_token_20 : decode cX12_token 20 = .ok (.getfield 201, 3) := by decide +kernel
theorem dX12_token_23 : decode cX12_token 23 = .ok (.iconst 1, 1) := by decide +kernel
theorem dX12_token_24 : decode cX12_token 24 = .ok (.iadd, 1) := by decide +kernel
theorem dX12_token_25 : decode cX12_token 25 = .ok (.putfield 201, 3) := by decide +kernel
theorem dX12_token_28 : decode cX12_token 28 = .ok (.goto (-28), 3) := by decide +kernel
theorem dX12_token_31 : decode cX12_token 31 = .ok (.aload_n 0, 1) := by decide +kernel
theorem dX12_token_32 : decode cX12_token 32 = .ok (.aload_n 0, 1) := by decide +kernel
theorem dX12_token_33 : decode cX12_token 33 = .ok (.getfield 201, 3) := by decide +kernel
theorem dX12_token_36 : decode cX12_token 36 = .ok (.putfield 211, 3) := by decide +kernel
theorem dX12_token_39 : decode cX12_token 39 = .ok (.aload_n 0, 1) := by decide +kernel
theorem dX12_token_40 : decode cX12_token 40 = .ok (.invokevirtual 207, 3) := by decide +kernel
theorem dX12_token_43 : decode cX12_token 43 = .ok (.istore_n 1, 1) := by decide +kernel
theorem dX12_token_44 : decode cX12_token 44 = .ok (.iload_n 1, 1) := by decide +kernel
theorem dX12_token_45 : decode cX12_token 45 = .ok (.iconst (-1), 1) := by decide +kernel
theorem dX12_token_46 : decode cX12_token 46 = .ok (.if_icmp .ne 11, 3) := by decide +kernel
theorem dX12_token_49 : decode cX12_token 49 = .ok (.aload_n 0, 1) := by decide +kernel
theorem dX12_token_50 : decode cX12_token 50 = .ok (.iconst 4, 1) := by decide +kernel
theorem dX12_token_51 : decode cX12_token 51 = .ok (.putfield 214, 3) := by decide +kernel
theorem dX12_token_54 : decode cX12_token 54 = .ok (.goto 172, 3) := by decide +kernel
theorem dX12_token_57 : decode cX12_token 57 = .ok (.iload_n 1, 1) := by decide +kernel
theorem dX12_token_58 : decode cX12_token 58 = .ok (.invokestatic 217, 3) := by decide +kernel
theorem dX12_token_61 : decode cX12_token 61 = .ok (.ifCond .eq 84, 3) := by decide +kernel
theorem dX12_token_64 : decode cX12_token 64 = .ok (.aload_n 0, 1) := by decide +kernel
theorem dX12_token_65 : decode cX12_token 65 = .ok (.invokevirtual 207, 3) := by decide +kernel
theorem dX12_token_68 : decode cX12_token 68 = .ok (.invokestatic 217, 3) := by decide +kernel
theorem dX12_token_71 : decode cX12_token 71 = .ok (.ifCond .eq 16, 3) := by decide +kernel
theorem dX12_token_74 : decode cX12_token 74 = .ok (.aload_n 0, 1) := by decide +kernel
theorem dX12_token_75 : decode cX12_token 75 = .ok (.dup, 1) := by decide +kernel
theorem dX12_token_76 : decode cX12_token 76 = .ok (.getfield 201, 3) := by decide +kernel
theorem dX12_token_79 : decode cX12_token 79 = .ok (.iconst 1, 1) := by decide +kernel
theorem dX12_token_80 : decode cX12_token 80 = .ok (.iadd, 1) := by decide +kernel
theorem dX12_token_81 : decode cX12_token 81 = .ok (.putfield 201, 3) := by decide +kernel
theorem dX12_token_84 : decode cX12_token 84 = .ok (.goto (-20), 3) := by decide +kernel
theorem dX12_token_87 : decode cX12_token 87 = .ok (.aload_n 0, 1) := by decide +kernel
theorem dX12_token_88 : decode cX12_token 88 = .ok (.aload_n 0, 1) := by decide +kernel
theorem dX12_token_89 : decode cX12_token 89 = .ok (.invokevirtual 221, 3) := by decide +kernel
theorem dX12_token_92 : decode cX12_token 92 = .ok (.putfield 224, 3) := by decide +kernel
theorem dX12_token_95 : decode cX12_token 95 = .ok (.aload_n 0, 1) := by decide +kernel
theorem dX12_token_96 : decode cX12_token 96 = .ok (.aload_n 0, 1) := by decide +kernel
theorem dX12_token_97 : decode cX12_token 97 = .ok (.getfield 224, 3) := by decide +kernel
theorem dX12_token_100 : decode cX12_token 100 = .ok (.iconst (-1), 1) := by decide +kernel
theorem dX12_token_101 : decode cX12_token 101 = .ok (.if_icmp .eq 7, 3) := by decide +kernel
theorem dX12_token_104 : decode cX12_token 104 = .ok (.iconst 0, 1) := by decide +kernel
theorem dX12_token_105 : decode cX12_token 105 = .ok (.goto 22, 3) := by decide +kernel
theorem dX12_token_108 : decode cX12_token 108 = .ok (.aload_n 0, 1) := by decide +kernel
theorem dX12_token_109 : decode cX12_token 109 = .ok (.getfield 201, 3) := by decide +kernel
theorem dX12_token_112 : decode cX12_token 112 = .ok (.aload_n 0, 1) := by decide +kernel
theorem dX12_token_113 : decode cX12_token 113 = .ok (.getfield 211, 3) := by decide +kernel
theorem dX12_token_116 : decode cX12_token 116 = .ok (.isub, 1) := by decide +kernel
theorem dX12_token_117 : decode cX12_token 117 = .ok (.bipush 6, 2) := by decide +kernel
theorem dX12_token_119 : decode cX12_token 119 = .ok (.if_icmp .le 7, 3) := by decide +kernel
theorem dX12_token_122 : decode cX12_token 122 = .ok (.iconst 5, 1) := by decide +kernel
theorem dX12_token_123 : decode cX12_token 123 = .ok (.goto 4, 3) := by decide +kernel
theorem dX12_token_126 : decode cX12_token 126 = .ok (.iconst 1, 1) := by decide +kernel
theorem dX12_token_127 : decode cX12_token 127 = .ok (.putfield 214, 3) := by decide +kernel
theorem dX12_token_130 : decode cX12_token 130 = .ok (.aload_n 0, 1) := by decide +kernel
theorem dX12_token_131 : decode cX12_token 131 = .ok (.getfield 214, 3) := by decide +kernel
theorem dX12_token_134 : decode cX12_token 134 = .ok (.iconst 1, 1) := by decide +kernel
theorem dX12_token_135 : decode cX12_token 135 = .ok (.if_icmp .ne 91, 3) := by decide +kernel
theorem dX12_token_138 : decode cX12_token 138 = .ok (.aload_n 0, 1) := by decide +kernel
theorem dX12_token_139 : decode cX12_token 139 = .ok (.invokevirtual 227, 3) := by decide +kernel
theorem dX12_token_142 : decode cX12_token 142 = .ok (.goto 84, 3) := by decide +kernel
theorem dX12_token_145 : decode cX12_token 145 = .ok (.iload_n 1, 1) := by decide +kernel
theorem dX12_token_146 : decode cX12_token 146 = .ok (.invokestatic 230, 3) := by decide +kernel
theorem dX12_token_149 : decode cX12_token 149 = .ok (.ifCond .eq 72, 3) := by decide +kernel
theorem dX12_token_152 : decode cX12_token 152 = .ok (.aload_n 0, 1) := by decide +kernel
theorem dX12_token_153 : decode cX12_token 153 = .ok (.iconst 2, 1) := by decide +kernel
theorem dX12_token_154 : decode cX12_token 154 = .ok (.putfield 214, 3) := by decide +kernel
theorem dX12_token_157 : decode cX12_token 157 = .ok (.aload_n 0, 1) := by decide +kernel
theorem dX12_token_158 : decode cX12_token 158 = .ok (.iconst 0, 1) := by decide +kernel
theorem dX12_token_159 : decode cX12_token 159 = .ok (.putfield 224, 3) := by decide +kernel
theorem dX12_token_162 : decode cX12_token 162 = .ok (.aload_n 0, 1) := by decide +kernel
theorem dX12_token_163 : decode cX12_token 163 = .ok (.invokevirtual 207, 3) := by decide +kernel
theorem dX12_token_166 : decode cX12_token 166 = .ok (.invokestatic 230, 3) := by decide +kernel
theorem dX12_token_169 : decode cX12_token 169 = .ok (.ifCond .eq 57, 3) := by decide +kernel
theorem dX12_token_172 : decode cX12_token 172 = .ok (.aload_n 0, 1) := by decide +kernel
theorem dX12_token_173 : decode cX12_token 173 = .ok (.aload_n 0, 1) := by decide +kernel
theorem dX12_token_174 : decode cX12_token 174 = .ok (.getfield 224, 3) := by decide +kernel
theorem dX12_token_177 : decode cX12_token 177 = .ok (.sipush 9999, 3) := by decide +kernel
theorem dX12_token_180 : decode cX12_token 180 = .ok (.if_icmp .le 10, 3) := by decide +kernel
theorem dX12_token_183 : decode cX12_token 183 = .ok (.aload_n 0, 1) := by decide +kernel
theorem dX12_token_184 : decode cX12_token 184 = .ok (.getfield 224, 3) := by decide +kernel
theorem dX12_token_187 : decode cX12_token 187 = .ok (.goto 18, 3) := by decide +kernel
theorem dX12_token_190 : decode cX12_token 190 = .ok (.bipush 10, 2) := by decide +kernel
theorem dX12_token_192 : decode cX12_token 192 = .ok (.aload_n 0, 1) := by decide +kernel
theorem dX12_token_193 : decode cX12_token 193 = .ok (.getfield 224, 3) := by decide +kernel
theorem dX12_token_196 : decode cX12_token 196 = .ok (.imul, 1) := by decide +kernel
theorem dX12_token_197 : decode cX12_token 197 = .ok (.aload_n 0, 1) := by decide +kernel
theorem dX12_token_198 : decode cX12_token 198 = .ok (.invokevirtual 207, 3) := by decide +kernel
theorem dX12_token_201 : decode cX12_token 201 = .ok (.iadd, 1) := by decide +kernel
theorem dX12_token_202 : decode cX12_token 202 = .ok (.bipush 48, 2) := by decide +kernel
theorem dX12_token_204 : decode cX12_token 204 = .ok (.isub, 1) := by decide +kernel
theorem dX12_token_205 : decode cX12_token 205 = .ok (.putfield 224, 3) := by decide +kernel
theorem dX12_token_208 : decode cX12_token 208 = .ok (.aload_n 0, 1) := by decide +kernel
theorem dX12_token_209 : decode cX12_token 209 = .ok (.dup, 1) := by decide +kernel
theorem dX12_token_210 : decode cX12_token 210 = .ok (.getfield 201, 3) := by decide +kernel
theorem dX12_token_213 : decode cX12_token 213 = .ok (.iconst 1, 1) := by decide +kernel
theorem dX12_token_214 : decode cX12_token 214 = .ok (.iadd, 1) := by decide +kernel
theorem dX12_token_215 : decode cX12_token 215 = .ok (.putfield 201, 3) := by decide +kernel
theorem dX12_token_218 : decode cX12_token 218 = .ok (.goto (-56), 3) := by decide +kernel
theorem dX12_token_221 : decode cX12_token 221 = .ok (.aload_n 0, 1) := by decide +kernel
theorem dX12_token_222 : decode cX12_token 222 = .ok (.iload_n 1, 1) := by decide +kernel
theorem dX12_token_223 : decode cX12_token 223 = .ok (.invokevirtual 233, 3) := by decide +kernel
theorem dX12_token_226 : decode cX12_token 226 = .ok (.return_, 1) := by decide +kernel
theorem dX12_sign_0 : decode cX12_sign 0 = .ok (.aload_n 0, 1) := by decide +kernel
theorem dX12_sign_1 : decode cX12_sign 1 = .ok (.dup, 1) := by decide +kernel
theorem dX12_sign_2 : decode cX12_sign 2 = .ok (.getfield 201, 3) := by decide +kernel
theorem dX12_sign_5 : decode cX12_sign 5 = .ok (.iconst 1, 1) := by decide +kernel
theorem dX12_sign_6 : decode cX12_sign 6 = .ok (.iadd, 1) := by decide +kernel
theorem dX12_sign_7 : decode cX12_sign 7 = .ok (.putfield 201, 3) := by decide +kernel
theorem dX12_sign_10 : decode cX12_sign 10 = .ok (.aload_n 0, 1) := by decide +kernel
theorem dX12_sign_11 : decode cX12_sign 11 = .ok (.iload_n 1, 1) := by decide +kernel
theorem dX12_sign_12 : decode cX12_sign 12 = .ok (.bipush 59, 2) := by decide +kernel
theorem dX12_sign_14 : decode cX12_sign 14 = .ok (.if_icmp .eq 57, 3) := by decide +kernel
theorem dX12_sign_17 : decode cX12_sign 17 = .ok (.iload_n 1, 1) := by decide +kernel
theorem dX12_sign_18 : decode cX12_sign 18 = .ok (.bipush 40, 2) := by decide +kernel
theorem dX12_sign_20 : decode cX12_sign 20 = .ok (.if_icmp .eq 51, 3) := by decide +kernel
theorem dX12_sign_23 : decode cX12_sign 23 = .ok (.iload_n 1, 1) := by decide +kernel
theorem dX12_sign_24 : decode cX12_sign 24 = .ok (.bipush 41, 2) := by decide +kernel
theorem dX12_sign_26 : decode cX12_sign 26 = .ok (.if_icmp .eq 45, 3) := by decide +kernel
theorem dX12_sign_29 : decode cX12_sign 29 = .ok (.iload_n 1, 1) := by decide +kernel
theorem dX12_sign_30 : decode cX12_sign 30 = .ok (.bipush 43, 2) := by decide +kernel
theorem dX12_sign_32 : decode cX12_sign 32 = .ok (.if_icmp .eq 39, 3) := by decide +kernel
theorem dX12_sign_35 : decode cX12_sign 35 = .ok (.iload_n 1, 1) := by decide +kernel
theorem dX12_sign_36 : decode cX12_sign 36 = .ok (.bipush 45, 2) := by decide +kernel
theorem dX12_sign_38 : decode cX12_sign 38 = .ok (.if_icmp .eq 33, 3) := by decide +kernel
theorem dX12_sign_41 : decode cX12_sign 41 = .ok (.iload_n 1, 1) := by decide +kernel
theorem dX12_sign_42 : decode cX12_sign 42 = .ok (.bipush 42, 2) := by decide +kernel
theorem dX12_sign_44 : decode cX12_sign 44 = .ok (.if_icmp .eq 27, 3) := by decide +kernel
theorem dX12_sign_47 : decode cX12_sign 47 = .ok (.iload_n 1, 1) := by decide +kernel
theorem dX12_sign_48 : decode cX12_sign 48 = .ok (.bipush 47, 2) := by decide +kernel
theorem dX12_sign_50 : decode cX12_sign 50 = .ok (.if_icmp .eq 21, 3) := by decide +kernel
theorem dX12_sign_53 : decode cX12_sign 53 = .ok (.iload_n 1, 1) := by decide +kernel
theorem dX12_sign_54 : decode cX12_sign 54 = .ok (.bipush 60, 2) := by decide +kernel
theorem dX12_sign_56 : decode cX12_sign 56 = .ok (.if_icmp .eq 15, 3) := by decide +kernel
theorem dX12_sign_59 : decode cX12_sign 59 = .ok (.iload_n 1, 1) := by decide +kernel
theorem dX12_sign_60 : decode cX12_sign 60 = .ok (.bipush 61, 2) := by decide +kernel
theorem dX12_sign_62 : decode cX12_sign 62 = .ok (.if_icmp .eq 9, 3) := by decide +kernel
theorem dX12_sign_65 : decode cX12_sign 65 = .ok (.iload_n 1, 1) := by decide +kernel
theorem dX12_sign_66 : decode cX12_sign 66 = .ok (.bipush 62, 2) := by decide +kernel
theorem dX12_sign_68 : decode cX12_sign 68 = .ok (.if_icmp .ne 7, 3) := by decide +kernel
theorem dX12_sign_71 : decode cX12_sign 71 = .ok (.iconst 3, 1) := by decide +kernel
theorem dX12_sign_72 : decode cX12_sign 72 = .ok (.goto 4, 3) := by decide +kernel
theorem dX12_sign_75 : decode cX12_sign 75 = .ok (.iconst 5, 1) := by decide +kernel
theorem dX12_sign_76 : decode cX12_sign 76 = .ok (.putfield 214, 3) := by decide +kernel
theorem dX12_sign_79 : decode cX12_sign 79 = .ok (.aload_n 0, 1) := by decide +kernel
theorem dX12_sign_80 : decode cX12_sign 80 = .ok (.iload_n 1, 1) := by decide +kernel
theorem dX12_sign_81 : decode cX12_sign 81 = .ok (.putfield 224, 3) := by decide +kernel
theorem dX12_sign_84 : decode cX12_sign 84 = .ok (.iload_n 1, 1) := by decide +kernel
theorem dX12_sign_85 : decode cX12_sign 85 = .ok (.bipush 60, 2) := by decide +kernel
theorem dX12_sign_87 : decode cX12_sign 87 = .ok (.if_icmp .ne 19, 3) := by decide +kernel
theorem dX12_sign_90 : decode cX12_sign 90 = .ok (.aload_n 0, 1) := by decide +kernel
theorem dX12_sign_91 : decode cX12_sign 91 = .ok (.invokevirtual 207, 3) := by decide +kernel
theorem dX12_sign_94 : decode cX12_sign 94 = .ok (.bipush 61, 2) := by decide +kernel
theorem dX12_sign_96 : decode cX12_sign 96 = .ok (.if_icmp .ne 10, 3) := by decide +kernel
theorem dX12_sign_99 : decode cX12_sign 99 = .ok (.aload_n 0, 1) := by decide +kernel
theorem dX12_sign_100 : decode cX12_sign 100 = .ok (.sipush 256, 3) := by decide +kernel
theorem dX12_sign_103 : decode cX12_sign 103 = .ok (.putfield 224, 3) := by decide +kernel
theorem dX12_sign_106 : decode cX12_sign 106 = .ok (.iload_n 1, 1) := by decide +kernel
theorem dX12_sign_107 : decode cX12_sign 107 = .ok (.bipush 60, 2) := by decide +kernel
theorem dX12_sign_109 : decode cX12_sign 109 = .ok (.if_icmp .ne 19, 3) := by decide +kernel
theorem dX12_sign_112 : decode cX12_sign 112 = .ok (.aload_n 0, 1) := by decide +kernel
theorem dX12_sign_113 : decode cX12_sign 113 = .ok (.invokevirtual 207, 3) := by decide +kernel
theorem dX12_sign_116 : decode cX12_sign 116 = .ok (.bipush 62, 2) := by decide +kernel
theorem dX12_sign_118 : decode cX12_sign 118 = .ok (.if_icmp .ne 10, 3) := by decide +kernel
theorem dX12_sign_121 : decode cX12_sign 121 = .ok (.aload_n 0, 1) := by decide +kernel
theorem dX12_sign_122 : decode cX12_sign 122 = .ok (.sipush 257, 3) := by decide +kernel
theorem dX12_sign_125 : decode cX12_sign 125 = .ok (.putfield 224, 3) := by decide +kernel
theorem dX12_sign_128 : decode cX12_sign 128 = .ok (.iload_n 1, 1) := by decide +kernel
theorem dX12_sign_129 : decode cX12_sign 129 = .ok (.bipush 62, 2) := by decide +kernel
theorem dX12_sign_131 : decode cX12_sign 131 = .ok (.if_icmp .ne 19, 3) := by decide +kernel
theorem dX12_sign_134 : decode cX12_sign 134 = .ok (.aload_n 0, 1) := by decide +kernel
theorem dX12_sign_135 : decode cX12_sign 135 = .ok (.invokevirtual 207, 3) := by decide +kernel
theorem dX12_sign_138 : decode cX12_sign 138 = .ok (.bipush 61, 2) := by decide +kernel
theorem dX12_sign_140 : decode cX12_sign 140 = .ok (.if_icmp .ne 10, 3) := by decide +kernel
theorem dX12_sign_143 : decode cX12_sign 143 = .ok (.aload_n 0, 1) := by decide +kernel
theorem dX12_sign_144 : decode cX12_sign 144 = .ok (.sipush 258, 3) := by decide +kernel
theorem dX12_sign_147 : decode cX12_sign 147 = .ok (.putfield 224, 3) := by decide +kernel
theorem dX12_sign_150 : decode cX12_sign 150 = .ok (.aload_n 0, 1) := by decide +kernel
theorem dX12_sign_151 : decode cX12_sign 151 = .ok (.getfield 224, 3) := by decide +kernel
theorem dX12_sign_154 : decode cX12_sign 154 = .ok (.sipush 256, 3) := by decide +kernel
theorem dX12_sign_157 : decode cX12_sign 157 = .ok (.if_icmp .lt 13, 3) := by decide +kernel
theorem dX12_sign_160 : decode cX12_sign 160 = .ok (.aload_n 0, 1) := by decide +kernel
theorem dX12_sign_161 : decode cX12_sign 161 = .ok (.dup, 1) := by decide +kernel
theorem dX12_sign_162 : decode cX12_sign 162 = .ok (.getfield 201, 3) := by decide +kernel
theorem dX12_sign_165 : decode cX12_sign 165 = .ok (.iconst 1, 1) := by decide +kernel
theorem dX12_sign_166 : decode cX12_sign 166 = .ok (.iadd, 1) := by decide +kernel
theorem dX12_sign_167 : decode cX12_sign 167 = .ok (.putfield 201, 3) := by decide +kernel
theorem dX12_sign_170 : decode cX12_sign 170 = .ok (.return_, 1) := by decide +kernel
theorem dX12_word_0 : decode cX12_word 0 = .ok (.iconst 0, 1) := by decide +kernel
theorem dX12_word_1 : decode cX12_word 1 = .ok (.istore_n 1, 1) := by decide +kernel
theorem dX12_word_2 : decode cX12_word 2 = .ok (.iconst 0, 1) := by decide +kernel
theorem dX12_word_3 : decode cX12_word 3 = .ok (.istore_n 2, 1) := by decide +kernel
theorem dX12_word_4 : decode cX12_word 4 = .ok (.iload_n 2, 1) := by decide +kernel
theorem dX12_word_5 : decode cX12_word 5 = .ok (.ldc 237, 2) := by decide +kernel
theorem dX12_word_7 : decode cX12_word 7 = .ok (.invokevirtual 239, 3) := by decide +kernel
theorem dX12_word_10 : decode cX12_word 10 = .ok (.if_icmp .ge 113, 3) := by decide +kernel
theorem dX12_word_13 : decode cX12_word 13 = .ok (.iconst 0, 1) := by decide +kernel
theorem dX12_word_14 : decode cX12_word 14 = .ok (.istore_n 3, 1) := by decide +kernel
theorem dX12_word_15 : decode cX12_word 15 = .ok (.ldc 237, 2) := by decide +kernel
theorem dX12_word_17 : decode cX12_word 17 = .ok (.iload_n 2, 1) := by decide +kernel
theorem dX12_word_18 : decode cX12_word 18 = .ok (.iload_n 3, 1) := by decide +kernel
theorem dX12_word_19 : decode cX12_word 19 = .ok (.iadd, 1) := by decide +kernel
theorem dX12_word_20 : decode cX12_word 20 = .ok (.invokevirtual 244, 3) := by decide +kernel
theorem dX12_word_23 : decode cX12_word 23 = .ok (.bipush 32, 2) := by decide +kernel
theorem dX12_word_25 : decode cX12_word 25 = .ok (.if_icmp .eq 44, 3) := by decide +kernel
theorem dX12_word_28 : decode cX12_word 28 = .ok (.aload_n 0, 1) := by decide +kernel
theorem dX12_word_29 : decode cX12_word 29 = .ok (.getfield 211, 3) := by decide +kernel
theorem dX12_word_32 : decode cX12_word 32 = .ok (.iload_n 3, 1) := by decide +kernel
theorem dX12_word_33 : decode cX12_word 33 = .ok (.iadd, 1) := by decide +kernel
theorem dX12_word_34 : decode cX12_word 34 = .ok (.aload_n 0, 1) := by decide +kernel
theorem dX12_word_35 : decode cX12_word 35 = .ok (.getfield 201, 3) := by decide +kernel
theorem dX12_word_38 : decode cX12_word 38 = .ok (.if_icmp .ge 31, 3) := by decide +kernel
theorem dX12_word_41 : decode cX12_word 41 = .ok (.aload_n 0, 1) := by decide +kernel
theorem dX12_word_42 : decode cX12_word 42 = .ok (.getfield 9, 3) := by decide +kernel
theorem dX12_word_45 : decode cX12_word 45 = .ok (.aload_n 0, 1) := by decide +kernel
theorem dX12_word_46 : decode cX12_word 46 = .ok (.getfield 211, 3) := by decide +kernel
theorem dX12_word_49 : decode cX12_word 49 = .ok (.iload_n 3, 1) := by decide +kernel
theorem dX12_word_50 : decode cX12_word 50 = .ok (.iadd, 1) := by decide +kernel
theorem dX12_word_51 : decode cX12_word 51 = .ok (.iaload, 1) := by decide +kernel
theorem dX12_word_52 : decode cX12_word 52 = .ok (.ldc 237, 2) := by decide +kernel
theorem dX12_word_54 : decode cX12_word 54 = .ok (.iload_n 2, 1) := by decide +kernel
theorem dX12_word_55 : decode cX12_word 55 = .ok (.iload_n 3, 1) := by decide +kernel
theorem dX12_word_56 : decode cX12_word 56 = .ok (.iadd, 1) := by decide +kernel
theorem dX12_word_57 : decode cX12_word 57 = .ok (.invokevirtual 244, 3) := by decide +kernel
theorem dX12_word_60 : decode cX12_word 60 = .ok (.if_icmp .ne 9, 3) := by decide +kernel
theorem dX12_word_63 : decode cX12_word 63 = .ok (.iinc 3 1, 3) := by decide +kernel
theorem dX12_word_66 : decode cX12_word 66 = .ok (.goto (-51), 3) := by decide +kernel
theorem dX12_word_69 : decode cX12_word 69 = .ok (.ldc 237, 2) := by decide +kernel
theorem dX12_word_71 : decode cX12_word 71 = .ok (.iload_n 2, 1) := by decide +kernel
theorem dX12_word_72 : decode cX12_word 72 = .ok (.iload_n 3, 1) := by decide +kernel
theorem dX12_word_73 : decode cX12_word 73 = .ok (.iadd, 1) := by decide +kernel
theorem dX12_word_74 : decode cX12_word 74 = .ok (.invokevirtual 244, 3) := by decide +kernel
theorem dX12_word_77 : decode cX12_word 77 = .ok (.bipush 32, 2) := by decide +kernel
theorem dX12_word_79 : decode cX12_word 79 = .ok (.if_icmp .ne 18, 3) := by decide +kernel
theorem dX12_word_82 : decode cX12_word 82 = .ok (.aload_n 0, 1) := by decide +kernel
theorem dX12_word_83 : decode cX12_word 83 = .ok (.getfield 211, 3) := by decide +kernel
theorem dX12_word_86 : decode cX12_word 86 = .ok (.iload_n 3, 1) := by decide +kernel
theorem dX12_word_87 : decode cX12_word 87 = .ok (.iadd, 1) := by decide +kernel
theorem dX12_word_88 : decode cX12_word 88 = .ok (.aload_n 0, 1) := by decide +kernel
theorem dX12_word_89 : decode cX12_word 89 = .ok (.getfield 201, 3) := by decide +kernel
theorem dX12_word_92 : decode cX12_word 92 = .ok (.if_icmp .ne 5, 3) := by decide +kernel
theorem dX12_word_95 : decode cX12_word 95 = .ok (.iload_n 1, 1) := by decide +kernel
theorem dX12_word_96 : decode cX12_word 96 = .ok (.ireturn, 1) := by decide +kernel
theorem dX12_word_97 : decode cX12_word 97 = .ok (.ldc 237, 2) := by decide +kernel
theorem dX12_word_99 : decode cX12_word 99 = .ok (.iload_n 2, 1) := by decide +kernel
theorem dX12_word_100 : decode cX12_word 100 = .ok (.invokevirtual 244, 3) := by decide +kernel
theorem dX12_word_103 : decode cX12_word 103 = .ok (.bipush 32, 2) := by decide +kernel
theorem dX12_word_105 : decode cX12_word 105 = .ok (.if_icmp .eq 9, 3) := by decide +kernel
theorem dX12_word_108 : decode cX12_word 108 = .ok (.iinc 2 1, 3) := by decide +kernel
theorem dX12_word_111 : decode cX12_word 111 = .ok (.goto (-14), 3) := by decide +kernel
theorem dX12_word_114 : decode cX12_word 114 = .ok (.iinc 2 1, 3) := by decide +kernel
theorem dX12_word_117 : decode cX12_word 117 = .ok (.iinc 1 1, 3) := by decide +kernel
theorem dX12_word_120 : decode cX12_word 120 = .ok (.goto (-116), 3) := by decide +kernel
theorem dX12_word_123 : decode cX12_word 123 = .ok (.iconst (-1), 1) := by decide +kernel
theorem dX12_word_124 : decode cX12_word 124 = .ok (.ireturn, 1) := by decide +kernel
theorem dX12_name_0 : decode cX12_name 0 = .ok (.aload_n 0, 1) := by decide +kernel
theorem dX12_name_1 : decode cX12_name 1 = .ok (.iconst 0, 1) := by decide +kernel
theorem dX12_name_2 : decode cX12_name 2 = .ok (.putfield 224, 3) := by decide +kernel
theorem dX12_name_5 : decode cX12_name 5 = .ok (.iconst 0, 1) := by decide +kernel
theorem dX12_name_6 : decode cX12_name 6 = .ok (.istore_n 1, 1) := by decide +kernel
theorem dX12_name_7 : decode cX12_name 7 = .ok (.iload_n 1, 1) := by decide +kernel
theorem dX12_name_8 : decode cX12_name 8 = .ok (.bipush 6, 2) := by decide +kernel
theorem dX12_name_10 : decode cX12_name 10 = .ok (.if_icmp .ge 53, 3) := by decide +kernel
theorem dX12_name_13 : decode cX12_name 13 = .ok (.aload_n 0, 1) := by decide +kernel
theorem dX12_name_14 : decode cX12_name 14 = .ok (.aload_n 0, 1) := by decide +kernel
theorem dX12_name_15 : decode cX12_name 15 = .ok (.getfield 224, 3) := by decide +kernel
theorem dX12_name_18 : decode cX12_name 18 = .ok (.iconst 5, 1) := by decide +kernel
theorem dX12_name_19 : decode cX12_name 19 = .ok (.ishl, 1) := by decide +kernel
theorem dX12_name_20 : decode cX12_name 20 = .ok (.aload_n 0, 1) := by decide +kernel
theorem dX12_name_21 : decode cX12_name 21 = .ok (.getfield 211, 3) := by decide +kernel
theorem dX12_name_24 : decode cX12_name 24 = .ok (.iload_n 1, 1) := by decide +kernel
theorem dX12_name_25 : decode cX12_name 25 = .ok (.iadd, 1) := by decide +kernel
theorem dX12_name_26 : decode cX12_name 26 = .ok (.aload_n 0, 1) := by decide +kernel
theorem dX12_name_27 : decode cX12_name 27 = .ok (.getfield 201, 3) := by decide +kernel
theorem dX12_name_30 : decode cX12_name 30 = .ok (.if_icmp .ge 22, 3) := by decide +kernel
theorem dX12_name_33 : decode cX12_name 33 = .ok (.aload_n 0, 1) := by decide +kernel
theorem dX12_name_34 : decode cX12_name 34 = .ok (.getfield 9, 3) := by decide +kernel
theorem dX12_name_37 : decode cX12_name 37 = .ok (.aload_n 0, 1) := by decide +kernel
theorem dX12_name_38 : decode cX12_name 38 = .ok (.getfield 211, 3) := by decide +kernel
theorem dX12_name_41 : decode cX12_name 41 = .ok (.iload_n 1, 1) := by decide +kernel
theorem dX12_name_42 : decode cX12_name 42 = .ok (.iadd, 1) := by decide +kernel
theorem dX12_name_43 : decode cX12_name 43 = .ok (.iaload, 1) := by decide +kernel
theorem dX12_name_44 : decode cX12_name 44 = .ok (.bipush 97, 2) := by decide +kernel
theorem dX12_name_46 : decode cX12_name 46 = .ok (.isub, 1) := by decide +kernel
theorem dX12_name_47 : decode cX12_name 47 = .ok (.iconst 1, 1) := by decide +kernel
theorem dX12_name_48 : decode cX12_name 48 = .ok (.iadd, 1) := by decide +kernel
theorem dX12_name_49 : decode cX12_name 49 = .ok (.goto 4, 3) := by decide +kernel
theorem dX12_name_52 : decode cX12_name 52 = .ok (.iconst 0, 1) := by decide +kernel
theorem dX12_name_53 : decode cX12_name 53 = .ok (.ior, 1) := by decide +kernel
theorem dX12_name_54 : decode cX12_name 54 = .ok (.putfield 224, 3) := by decide +kernel
theorem dX12_name_57 : decode cX12_name 57 = .ok (.iinc 1 1, 3) := by decide +kernel
theorem dX12_name_60 : decode cX12_name 60 = .ok (.goto (-53), 3) := by decide +kernel
theorem dX12_name_63 : decode cX12_name 63 = .ok (.return_, 1) := by decide +kernel
theorem dX12_wrong_0 : decode cX12_wrong 0 = .ok (.aload_n 0, 1) := by decide +kernel
theorem dX12_wrong_1 : decode cX12_wrong 1 = .ok (.getfield 248, 3) := by decide +kernel
theorem dX12_wrong_4 : decode cX12_wrong 4 = .ok (.ifCond .eq 4, 3) := by decide +kernel
theorem dX12_wrong_7 : decode cX12_wrong 7 = .ok (.return_, 1) := by decide +kernel
theorem dX12_wrong_8 : decode cX12_wrong 8 = .ok (.aload_n 0, 1) := by decide +kernel
theorem dX12_wrong_9 : decode cX12_wrong 9 = .ok (.iload_n 1, 1) := by decide +kernel
theorem dX12_wrong_10 : decode cX12_wrong 10 = .ok (.putfield 248, 3) := by decide +kernel
theorem dX12_wrong_13 : decode cX12_wrong 13 = .ok (.aload_n 0, 1) := by decide +kernel
theorem dX12_wrong_14 : decode cX12_wrong 14 = .ok (.aload_n 0, 1) := by decide +kernel
theorem dX12_wrong_15 : decode cX12_wrong 15 = .ok (.getfield 211, 3) := by decide +kernel
theorem dX12_wrong_18 : decode cX12_wrong 18 = .ok (.putfield 251, 3) := by decide +kernel
theorem dX12_wrong_21 : decode cX12_wrong 21 = .ok (.return_, 1) := by decide +kernel
theorem dX12_isWord_0 : decode cX12_isWord 0 = .ok (.aload_n 0, 1) := by decide +kernel
theorem dX12_isWord_1 : decode cX12_isWord 1 = .ok (.getfield 248, 3) := by decide +kernel
theorem dX12_isWord_4 : decode cX12_isWord 4 = .ok (.ifCond .ne 22, 3) := by decide +kernel
theorem dX12_isWord_7 : decode cX12_isWord 7 = .ok (.aload_n 0, 1) := by decide +kernel
theorem dX12_isWord_8 : decode cX12_isWord 8 = .ok (.getfield 214, 3) := by decide +kernel
theorem dX12_isWord_11 : decode cX12_isWord 11 = .ok (.ifCond .ne 15, 3) := by decide +kernel
theorem dX12_isWord_14 : decode cX12_isWord 14 = .ok (.aload_n 0, 1) := by decide +kernel
theorem dX12_isWord_15 : decode cX12_isWord 15 = .ok (.getfield 224, 3) := by decide +kernel
theorem dX12_isWord_18 : decode cX12_isWord 18 = .ok (.iload_n 1, 1) := by decide +kernel
theorem dX12_isWord_19 : decode cX12_isWord 19 = .ok (.if_icmp .ne 7, 3) := by decide +kernel
theorem dX12_isWord_22 : decode cX12_isWord 22 = .ok (.iconst 1, 1) := by decide +kernel
theorem dX12_isWord_23 : decode cX12_isWord 23 = .ok (.goto 4, 3) := by decide +kernel
theorem dX12_isWord_26 : decode cX12_isWord 26 = .ok (.iconst 0, 1) := by decide +kernel
theorem dX12_isWord_27 : decode cX12_isWord 27 = .ok (.ireturn, 1) := by decide +kernel
theorem dX12_isSign_0 : decode cX12_isSign 0 = .ok (.aload_n 0, 1) := by decide +kernel
theorem dX12_isSign_1 : decode cX12_isSign 1 = .ok (.getfield 248, 3) := by decide +kernel
theorem dX12_isSign_4 : decode cX12_isSign 4 = .ok (.ifCond .ne 23, 3) := by decide +kernel
theorem dX12_isSign_7 : decode cX12_isSign 7 = .ok (.aload_n 0, 1) := by decide +kernel
theorem dX12_isSign_8 : decode cX12_isSign 8 = .ok (.getfield 214, 3) := by decide +kernel
theorem dX12_isSign_11 : decode cX12_isSign 11 = .ok (.iconst 3, 1) := by decide +kernel
theorem dX12_isSign_12 : decode cX12_isSign 12 = .ok (.if_icmp .ne 15, 3) := by decide +kernel
theorem dX12_isSign_15 : decode cX12_isSign 15 = .ok (.aload_n 0, 1) := by decide +kernel
theorem dX12_isSign_16 : decode cX12_isSign 16 = .ok (.getfield 224, 3) := by decide +kernel
theorem dX12_isSign_19 : decode cX12_isSign 19 = .ok (.iload_n 1, 1) := by decide +kernel
theorem dX12_isSign_20 : decode cX12_isSign 20 = .ok (.if_icmp .ne 7, 3) := by decide +kernel
theorem dX12_isSign_23 : decode cX12_isSign 23 = .ok (.iconst 1, 1) := by decide +kernel
theorem dX12_isSign_24 : decode cX12_isSign 24 = .ok (.goto 4, 3) := by decide +kernel
theorem dX12_isSign_27 : decode cX12_isSign 27 = .ok (.iconst 0, 1) := by decide +kernel
theorem dX12_isSign_28 : decode cX12_isSign 28 = .ok (.ireturn, 1) := by decide +kernel
theorem dX12_goOn_0 : decode cX12_goOn 0 = .ok (.aload_n 0, 1) := by decide +kernel
theorem dX12_goOn_1 : decode cX12_goOn 1 = .ok (.getfield 248, 3) := by decide +kernel
theorem dX12_goOn_4 : decode cX12_goOn 4 = .ok (.ifCond .ne 7, 3) := by decide +kernel
theorem dX12_goOn_7 : decode cX12_goOn 7 = .ok (.aload_n 0, 1) := by decide +kernel
theorem dX12_goOn_8 : decode cX12_goOn 8 = .ok (.invokevirtual 254, 3) := by decide +kernel
theorem dX12_goOn_11 : decode cX12_goOn 11 = .ok (.return_, 1) := by decide +kernel
theorem dX12_isNumeral_0 : decode cX12_isNumeral 0 = .ok (.aload_n 0, 1) := by decide +kernel
theorem dX12_isNumeral_1 : decode cX12_isNumeral 1 = .ok (.getfield 248, 3) := by decide +kernel
theorem dX12_isNumeral_4 : decode cX12_isNumeral 4 = .ok (.ifCond .eq 5, 3) := by decide +kernel
theorem dX12_isNumeral_7 : decode cX12_isNumeral 7 = .ok (.iconst 0, 1) := by decide +kernel
theorem dX12_isNumeral_8 : decode cX12_isNumeral 8 = .ok (.ireturn, 1) := by decide +kernel
theorem dX12_isNumeral_9 : decode cX12_isNumeral 9 = .ok (.aload_n 0, 1) := by decide +kernel
theorem dX12_isNumeral_10 : decode cX12_isNumeral 10 = .ok (.getfield 214, 3) := by decide +kernel
theorem dX12_isNumeral_13 : decode cX12_isNumeral 13 = .ok (.iconst 2, 1) := by decide +kernel
theorem dX12_isNumeral_14 : decode cX12_isNumeral 14 = .ok (.if_icmp .eq 11, 3) := by decide +kernel
theorem dX12_isNumeral_17 : decode cX12_isNumeral 17 = .ok (.aload_n 0, 1) := by decide +kernel
theorem dX12_isNumeral_18 : decode cX12_isNumeral 18 = .ok (.iconst 1, 1) := by decide +kernel
theorem dX12_isNumeral_19 : decode cX12_isNumeral 19 = .ok (.invokevirtual 257, 3) := by decide +kernel
theorem dX12_isNumeral_22 : decode cX12_isNumeral 22 = .ok (.goto 24, 3) := by decide +kernel
theorem dX12_isNumeral_25 : decode cX12_isNumeral 25 = .ok (.aload_n 0, 1) := by decide +kernel
theorem dX12_isNumeral_26 : decode cX12_isNumeral 26 = .ok (.getfield 224, 3) := by decide +kernel
theorem dX12_isNumeral_29 : decode cX12_isNumeral 29 = .ok (.iload_n 1, 1) := by decide +kernel
theorem dX12_isNumeral_30 : decode cX12_isNumeral 30 = .ok (.if_icmp .lt 11, 3) := by decide +kernel
theorem dX12_isNumeral_33 : decode cX12_isNumeral 33 = .ok (.aload_n 0, 1) := by decide +kernel
theorem dX12_isNumeral_34 : decode cX12_isNumeral 34 = .ok (.getfield 224, 3) := by decide +kernel
theorem dX12_isNumeral_37 : decode cX12_isNumeral 37 = .ok (.iload_n 2, 1) := by decide +kernel
theorem dX12_isNumeral_38 : decode cX12_isNumeral 38 = .ok (.if_icmp .le 8, 3) := by decide +kernel
theorem dX12_isNumeral_41 : decode cX12_isNumeral 41 = .ok (.aload_n 0, 1) := by decide +kernel
theorem dX12_isNumeral_42 : decode cX12_isNumeral 42 = .ok (.iconst 2, 1) := by decide +kernel
theorem dX12_isNumeral_43 : decode cX12_isNumeral 43 = .ok (.invokevirtual 257, 3) := by decide +kernel
theorem dX12_isNumeral_46 : decode cX12_isNumeral 46 = .ok (.aload_n 0, 1) := by decide +kernel
theorem dX12_isNumeral_47 : decode cX12_isNumeral 47 = .ok (.getfield 248, 3) := by decide +kernel
theorem dX12_isNumeral_50 : decode cX12_isNumeral 50 = .ok (.ifCond .ne 7, 3) := by decide +kernel
theorem dX12_isNumeral_53 : decode cX12_isNumeral 53 = .ok (.iconst 1, 1) := by decide +kernel
theorem dX12_isNumeral_54 : decode cX12_isNumeral 54 = .ok (.goto 4, 3) := by decide +kernel
theorem dX12_isNumeral_57 : decode cX12_isNumeral 57 = .ok (.iconst 0, 1) := by decide +kernel
theorem dX12_isNumeral_58 : decode cX12_isNumeral 58 = .ok (.ireturn, 1) := by decide +kernel
theorem dX12_numeral_0 : decode cX12_numeral 0 = .ok (.aload_n 0, 1) := by decide +kernel
theorem dX12_numeral_1 : decode cX12_numeral 1 = .ok (.iload_n 1, 1) := by decide +kernel
theorem dX12_numeral_2 : decode cX12_numeral 2 = .ok (.iload_n 2, 1) := by decide +kernel
theorem dX12_numeral_3 : decode cX12_numeral 3 = .ok (.invokevirtual 260, 3) := by decide +kernel
theorem dX12_numeral_6 : decode cX12_numeral 6 = .ok (.ifCond .ne 5, 3) := by decide +kernel
theorem dX12_numeral_9 : decode cX12_numeral 9 = .ok (.iload_n 1, 1) := by decide +kernel
theorem dX12_numeral_10 : decode cX12_numeral 10 = .ok (.ireturn, 1) := by decide +kernel
theorem dX12_numeral_11 : decode cX12_numeral 11 = .ok (.aload_n 0, 1) := by decide +kernel
theorem dX12_numeral_12 : decode cX12_numeral 12 = .ok (.getfield 224, 3) := by decide +kernel
theorem dX12_numeral_15 : decode cX12_numeral 15 = .ok (.istore_n 3, 1) := by decide +kernel
theorem dX12_numeral_16 : decode cX12_numeral 16 = .ok (.aload_n 0, 1) := by decide +kernel
theorem dX12_numeral_17 : decode cX12_numeral 17 = .ok (.invokevirtual 254, 3) := by decide +kernel
theorem dX12_numeral_20 : decode cX12_numeral 20 = .ok (.iload_n 3, 1) := by decide +kernel
theorem dX12_numeral_21 : decode cX12_numeral 21 = .ok (.ireturn, 1) := by decide +kernel
theorem dX12_bit_0 : decode cX12_bit 0 = .ok (.aload_n 0, 1) := by decide +kernel
theorem dX12_bit_1 : decode cX12_bit 1 = .ok (.iconst 0, 1) := by decide +kernel
theorem dX12_bit_2 : decode cX12_bit 2 = .ok (.iload_n 2, 1) := by decide +kernel
theorem dX12_bit_3 : decode cX12_bit 3 = .ok (.invokevirtual 260, 3) := by decide +kernel
theorem dX12_bit_6 : decode cX12_bit 6 = .ok (.ifCond .ne 5, 3) := by decide +kernel
theorem dX12_bit_9 : decode cX12_bit 9 = .ok (.iload_n 1, 1) := by decide +kernel
theorem dX12_bit_10 : decode cX12_bit 10 = .ok (.ireturn, 1) := by decide +kernel
theorem dX12_bit_11 : decode cX12_bit 11 = .ok (.iload_n 1, 1) := by decide +kernel
theorem dX12_bit_12 : decode cX12_bit 12 = .ok (.aload_n 0, 1) := by decide +kernel
theorem dX12_bit_13 : decode cX12_bit 13 = .ok (.getfield 224, 3) := by decide +kernel
theorem dX12_bit_16 : decode cX12_bit 16 = .ok (.ishr, 1) := by decide +kernel
theorem dX12_bit_17 : decode cX12_bit 17 = .ok (.iconst 1, 1) := by decide +kernel
theorem dX12_bit_18 : decode cX12_bit 18 = .ok (.iand, 1) := by decide +kernel
theorem dX12_bit_19 : decode cX12_bit 19 = .ok (.iconst 1, 1) := by decide +kernel
theorem dX12_bit_20 : decode cX12_bit 20 = .ok (.if_icmp .ne 8, 3) := by decide +kernel
theorem dX12_bit_23 : decode cX12_bit 23 = .ok (.aload_n 0, 1) := by decide +kernel
theorem dX12_bit_24 : decode cX12_bit 24 = .ok (.iconst 3, 1) := by decide +kernel
theorem dX12_bit_25 : decode cX12_bit 25 = .ok (.invokevirtual 257, 3) := by decide +kernel
theorem dX12_bit_28 : decode cX12_bit 28 = .ok (.aload_n 0, 1) := by decide +kernel
theorem dX12_bit_29 : decode cX12_bit 29 = .ok (.getfield 248, 3) := by decide +kernel
theorem dX12_bit_32 : decode cX12_bit 32 = .ok (.ifCond .eq 5, 3) := by decide +kernel
theorem dX12_bit_35 : decode cX12_bit 35 = .ok (.iload_n 1, 1) := by decide +kernel
theorem dX12_bit_36 : decode cX12_bit 36 = .ok (.ireturn, 1) := by decide +kernel
theorem dX12_bit_37 : decode cX12_bit 37 = .ok (.iload_n 1, 1) := by decide +kernel
theorem dX12_bit_38 : decode cX12_bit 38 = .ok (.iconst 1, 1) := by decide +kernel
theorem dX12_bit_39 : decode cX12_bit 39 = .ok (.aload_n 0, 1) := by decide +kernel
theorem dX12_bit_40 : decode cX12_bit 40 = .ok (.getfield 224, 3) := by decide +kernel
theorem dX12_bit_43 : decode cX12_bit 43 = .ok (.ishl, 1) := by decide +kernel
theorem dX12_bit_44 : decode cX12_bit 44 = .ok (.ior, 1) := by decide +kernel
theorem dX12_bit_45 : decode cX12_bit 45 = .ok (.istore_n 3, 1) := by decide +kernel
theorem dX12_bit_46 : decode cX12_bit 46 = .ok (.aload_n 0, 1) := by decide +kernel
theorem dX12_bit_47 : decode cX12_bit 47 = .ok (.invokevirtual 254, 3) := by decide +kernel
theorem dX12_bit_50 : decode cX12_bit 50 = .ok (.iload_n 3, 1) := by decide +kernel
theorem dX12_bit_51 : decode cX12_bit 51 = .ok (.ireturn, 1) := by decide +kernel
theorem dX12_found_0 : decode cX12_found 0 = .ok (.iconst 0, 1) := by decide +kernel
theorem dX12_found_1 : decode cX12_found 1 = .ok (.istore 4, 2) := by decide +kernel
theorem dX12_found_3 : decode cX12_found 3 = .ok (.iload 4, 2) := by decide +kernel
theorem dX12_found_5 : decode cX12_found 5 = .ok (.iload_n 2, 1) := by decide +kernel
theorem dX12_found_6 : decode cX12_found 6 = .ok (.if_icmp .ge 22, 3) := by decide +kernel
theorem dX12_found_9 : decode cX12_found 9 = .ok (.aload_n 0, 1) := by decide +kernel
theorem dX12_found_10 : decode cX12_found 10 = .ok (.iload_n 1, 1) := by decide +kernel
theorem dX12_found_11 : decode cX12_found 11 = .ok (.iload 4, 2) := by decide +kernel
theorem dX12_found_13 : decode cX12_found 13 = .ok (.iadd, 1) := by decide +kernel
theorem dX12_found_14 : decode cX12_found 14 = .ok (.iaload, 1) := by decide +kernel
theorem dX12_found_15 : decode cX12_found 15 = .ok (.iload_n 3, 1) := by decide +kernel
theorem dX12_found_16 : decode cX12_found 16 = .ok (.if_icmp .ne 6, 3) := by decide +kernel
theorem dX12_found_19 : decode cX12_found 19 = .ok (.iload 4, 2) := by decide +kernel
theorem dX12_found_21 : decode cX12_found 21 = .ok (.ireturn, 1) := by decide +kernel
theorem dX12_found_22 : decode cX12_found 22 = .ok (.iinc 4 1, 3) := by decide +kernel
theorem dX12_found_25 : decode cX12_found 25 = .ok (.goto (-22), 3) := by decide +kernel
theorem dX12_found_28 : decode cX12_found 28 = .ok (.iconst (-1), 1) := by decide +kernel
theorem dX12_found_29 : decode cX12_found 29 = .ok (.ireturn, 1) := by decide +kernel
theorem dX12_fresh_0 : decode cX12_fresh 0 = .ok (.aload_n 0, 1) := by decide +kernel
theorem dX12_fresh_1 : decode cX12_fresh 1 = .ok (.getfield 248, 3) := by decide +kernel
theorem dX12_fresh_4 : decode cX12_fresh 4 = .ok (.ifCond .eq 5, 3) := by decide +kernel
theorem dX12_fresh_7 : decode cX12_fresh 7 = .ok (.iconst 0, 1) := by decide +kernel
theorem dX12_fresh_8 : decode cX12_fresh 8 = .ok (.ireturn, 1) := by decide +kernel
theorem dX12_fresh_9 : decode cX12_fresh 9 = .ok (.aload_n 0, 1) := by decide +kernel
theorem dX12_fresh_10 : decode cX12_fresh 10 = .ok (.getfield 214, 3) := by decide +kernel
theorem dX12_fresh_13 : decode cX12_fresh 13 = .ok (.iconst 1, 1) := by decide +kernel
theorem dX12_fresh_14 : decode cX12_fresh 14 = .ok (.if_icmp .eq 11, 3) := by decide +kernel
theorem dX12_fresh_17 : decode cX12_fresh 17 = .ok (.aload_n 0, 1) := by decide +kernel
theorem dX12_fresh_18 : decode cX12_fresh 18 = .ok (.iconst 1, 1) := by decide +kernel
theorem dX12_fresh_19 : decode cX12_fresh 19 = .ok (.invokevirtual 257, 3) := by decide +kernel
theorem dX12_fresh_22 : decode cX12_fresh 22 = .ok (.goto 22, 3) := by decide +kernel
theorem dX12_fresh_25 : decode cX12_fresh 25 = .ok (.aload_n 1, 1) := by decide +kernel
theorem dX12_fresh_26 : decode cX12_fresh 26 = .ok (.iload_n 2, 1) := by decide +kernel
theorem dX12_fresh_27 : decode cX12_fresh 27 = .ok (.iload_n 3, 1) := by decide +kernel
theorem dX12_fresh_28 : decode cX12_fresh 28 = .ok (.aload_n 0, 1) := by decide +kernel
theorem dX12_fresh_29 : decode cX12_fresh 29 = .ok (.getfield 224, 3) := by decide +kernel
theorem dX12_fresh_32 : decode cX12_fresh 32 = .ok (.invokestatic 264, 3) := by decide +kernel
theorem dX12_fresh_35 : decode cX12_fresh 35 = .ok (.iconst (-1), 1) := by decide +kernel
theorem dX12_fresh_36 : decode cX12_fresh 36 = .ok (.if_icmp .eq 8, 3) := by decide +kernel
theorem dX12_fresh_39 : decode cX12_fresh 39 = .ok (.aload_n 0, 1) := by decide +kernel
theorem dX12_fresh_40 : decode cX12_fresh 40 = .ok (.iconst 3, 1) := by decide +kernel
theorem dX12_fresh_41 : decode cX12_fresh 41 = .ok (.invokevirtual 257, 3) := by decide +kernel
theorem dX12_fresh_44 : decode cX12_fresh 44 = .ok (.aload_n 0, 1) := by decide +kernel
theorem dX12_fresh_45 : decode cX12_fresh 45 = .ok (.getfield 248, 3) := by decide +kernel
theorem dX12_fresh_48 : decode cX12_fresh 48 = .ok (.ifCond .eq 5, 3) := by decide +kernel
theorem dX12_fresh_51 : decode cX12_fresh 51 = .ok (.iconst 0, 1) := by decide +kernel
theorem dX12_fresh_52 : decode cX12_fresh 52 = .ok (.ireturn, 1) := by decide +kernel
theorem dX12_fresh_53 : decode cX12_fresh 53 = .ok (.aload_n 0, 1) := by decide +kernel
theorem dX12_fresh_54 : decode cX12_fresh 54 = .ok (.getfield 224, 3) := by decide +kernel
theorem dX12_fresh_57 : decode cX12_fresh 57 = .ok (.istore 4, 2) := by decide +kernel
theorem dX12_fresh_59 : decode cX12_fresh 59 = .ok (.aload_n 0, 1) := by decide +kernel
theorem dX12_fresh_60 : decode cX12_fresh 60 = .ok (.invokevirtual 254, 3) := by decide +kernel
theorem dX12_fresh_63 : decode cX12_fresh 63 = .ok (.iload 4, 2) := by decide +kernel
theorem dX12_fresh_65 : decode cX12_fresh 65 = .ok (.ireturn, 1) := by decide +kernel
theorem dX12_freshTool_0 : decode cX12_freshTool 0 = .ok (.aload_n 0, 1) := by decide +kernel
theorem dX12_freshTool_1 : decode cX12_freshTool 1 = .ok (.getfield 248, 3) := by decide +kernel
theorem dX12_freshTool_4 : decode cX12_freshTool 4 = .ok (.ifCond .ne 56, 3) := by decide +kernel
theorem dX12_freshTool_7 : decode cX12_freshTool 7 = .ok (.aload_n 0, 1) := by decide +kernel
theorem dX12_freshTool_8 : decode cX12_freshTool 8 = .ok (.getfield 214, 3) := by decide +kernel
theorem dX12_freshTool_11 : decode cX12_freshTool 11 = .ok (.iconst 1, 1) := by decide +kernel
theorem dX12_freshTool_12 : decode cX12_freshTool 12 = .ok (.if_icmp .ne 48, 3) := by decide +kernel
theorem dX12_freshTool_15 : decode cX12_freshTool 15 = .ok (.aload_n 0, 1) := by decide +kernel
theorem dX12_freshTool_16 : decode cX12_freshTool 16 = .ok (.getfield 15, 3) := by decide +kernel
theorem dX12_freshTool_19 : decode cX12_freshTool 19 = .ok (.iconst 4, 1) := by decide +kernel
theorem dX12_freshTool_20 : decode cX12_freshTool 20 = .ok (.aload_n 0, 1) := by decide +kernel
theorem dX12_freshTool_21 : decode cX12_freshTool 21 = .ok (.getfield 268, 3) := by decide +kernel
theorem dX12_freshTool_24 : decode cX12_freshTool 24 = .ok (.aload_n 0, 1) := by decide +kernel
theorem dX12_freshTool_25 : decode cX12_freshTool 25 = .ok (.getfield 224, 3) := by decide +kernel
theorem dX12_freshTool_28 : decode cX12_freshTool 28 = .ok (.invokestatic 264, 3) := by decide +kernel
theorem dX12_freshTool_31 : decode cX12_freshTool 31 = .ok (.iconst (-1), 1) := by decide +kernel
theorem dX12_freshTool_32 : decode cX12_freshTool 32 = .ok (.if_icmp .ne 23, 3) := by decide +kernel
theorem dX12_freshTool_35 : decode cX12_freshTool 35 = .ok (.aload_n 0, 1) := by decide +kernel
theorem dX12_freshTool_36 : decode cX12_freshTool 36 = .ok (.getfield 21, 3) := by decide +kernel
theorem dX12_freshTool_39 : decode cX12_freshTool 39 = .ok (.iconst 3, 1) := by decide +kernel
theorem dX12_freshTool_40 : decode cX12_freshTool 40 = .ok (.aload_n 0, 1) := by decide +kernel
theorem dX12_freshTool_41 : decode cX12_freshTool 41 = .ok (.getfield 271, 3) := by decide +kernel
theorem dX12_freshTool_44 : decode cX12_freshTool 44 = .ok (.aload_n 0, 1) := by decide +kernel
theorem dX12_freshTool_45 : decode cX12_freshTool 45 = .ok (.getfield 224, 3) := by decide +kernel
theorem dX12_freshTool_48 : decode cX12_freshTool 48 = .ok (.invokestatic 264, 3) := by decide +kernel
theorem dX12_freshTool_51 : decode cX12_freshTool 51 = .ok (.iconst (-1), 1) := by decide +kernel
theorem dX12_freshTool_52 : decode cX12_freshTool 52 = .ok (.if_icmp .eq 8, 3) := by decide +kernel
theorem dX12_freshTool_55 : decode cX12_freshTool 55 = .ok (.aload_n 0, 1) := by decide +kernel
theorem dX12_freshTool_56 : decode cX12_freshTool 56 = .ok (.iconst 3, 1) := by decide +kernel
theorem dX12_freshTool_57 : decode cX12_freshTool 57 = .ok (.invokevirtual 257, 3) := by decide +kernel
theorem dX12_freshTool_60 : decode cX12_freshTool 60 = .ok (.aload_n 0, 1) := by decide +kernel
theorem dX12_freshTool_61 : decode cX12_freshTool 61 = .ok (.getfield 248, 3) := by decide +kernel
theorem dX12_freshTool_64 : decode cX12_freshTool 64 = .ok (.ifCond .ne 16, 3) := by decide +kernel
theorem dX12_freshTool_67 : decode cX12_freshTool 67 = .ok (.aload_n 0, 1) := by decide +kernel
theorem dX12_freshTool_68 : decode cX12_freshTool 68 = .ok (.getfield 214, 3) := by decide +kernel
theorem dX12_freshTool_71 : decode cX12_freshTool 71 = .ok (.iconst 1, 1) := by decide +kernel
theorem dX12_freshTool_72 : decode cX12_freshTool 72 = .ok (.if_icmp .eq 8, 3) := by decide +kernel
theorem dX12_freshTool_75 : decode cX12_freshTool 75 = .ok (.aload_n 0, 1) := by decide +kernel
theorem dX12_freshTool_76 : decode cX12_freshTool 76 = .ok (.iconst 1, 1) := by decide +kernel
theorem dX12_freshTool_77 : decode cX12_freshTool 77 = .ok (.invokevirtual 257, 3) := by decide +kernel
theorem dX12_freshTool_80 : decode cX12_freshTool 80 = .ok (.aload_n 0, 1) := by decide +kernel
theorem dX12_freshTool_81 : decode cX12_freshTool 81 = .ok (.getfield 248, 3) := by decide +kernel
theorem dX12_freshTool_84 : decode cX12_freshTool 84 = .ok (.ifCond .eq 5, 3) := by decide +kernel
theorem dX12_freshTool_87 : decode cX12_freshTool 87 = .ok (.iconst 0, 1) := by decide +kernel
theorem dX12_freshTool_88 : decode cX12_freshTool 88 = .ok (.ireturn, 1) := by decide +kernel
theorem dX12_freshTool_89 : decode cX12_freshTool 89 = .ok (.aload_n 0, 1) := by decide +kernel
theorem dX12_freshTool_90 : decode cX12_freshTool 90 = .ok (.getfield 224, 3) := by decide +kernel
theorem dX12_freshTool_93 : decode cX12_freshTool 93 = .ok (.istore_n 1, 1) := by decide +kernel
theorem dX12_freshTool_94 : decode cX12_freshTool 94 = .ok (.aload_n 0, 1) := by decide +kernel
theorem dX12_freshTool_95 : decode cX12_freshTool 95 = .ok (.invokevirtual 254, 3) := by decide +kernel
theorem dX12_freshTool_98 : decode cX12_freshTool 98 = .ok (.iload_n 1, 1) := by decide +kernel
theorem dX12_freshTool_99 : decode cX12_freshTool 99 = .ok (.ireturn, 1) := by decide +kernel
theorem dX12_ahead_0 : decode cX12_ahead 0 = .ok (.aload_n 0, 1) := by decide +kernel
theorem dX12_ahead_1 : decode cX12_ahead 1 = .ok (.getfield 248, 3) := by decide +kernel
theorem dX12_ahead_4 : decode cX12_ahead 4 = .ok (.ifCond .eq 5, 3) := by decide +kernel
theorem dX12_ahead_7 : decode cX12_ahead 7 = .ok (.iconst 0, 1) := by decide +kernel
theorem dX12_ahead_8 : decode cX12_ahead 8 = .ok (.ireturn, 1) := by decide +kernel
theorem dX12_ahead_9 : decode cX12_ahead 9 = .ok (.aload_n 0, 1) := by decide +kernel
theorem dX12_ahead_10 : decode cX12_ahead 10 = .ok (.getfield 214, 3) := by decide +kernel
theorem dX12_ahead_13 : decode cX12_ahead 13 = .ok (.iconst 1, 1) := by decide +kernel
theorem dX12_ahead_14 : decode cX12_ahead 14 = .ok (.if_icmp .eq 11, 3) := by decide +kernel
theorem dX12_ahead_17 : decode cX12_ahead 17 = .ok (.aload_n 0, 1) := by decide +kernel
theorem dX12_ahead_18 : decode cX12_ahead 18 = .ok (.iconst 1, 1) := by decide +kernel
theorem dX12_ahead_19 : decode cX12_ahead 19 = .ok (.invokevirtual 257, 3) := by decide +kernel
theorem dX12_ahead_22 : decode cX12_ahead 22 = .ok (.goto 22, 3) := by decide +kernel
theorem dX12_ahead_25 : decode cX12_ahead 25 = .ok (.aload_n 1, 1) := by decide +kernel
theorem dX12_ahead_26 : decode cX12_ahead 26 = .ok (.iload_n 2, 1) := by decide +kernel
theorem dX12_ahead_27 : decode cX12_ahead 27 = .ok (.iload_n 3, 1) := by decide +kernel
theorem dX12_ahead_28 : decode cX12_ahead 28 = .ok (.aload_n 0, 1) := by decide +kernel
theorem dX12_ahead_29 : decode cX12_ahead 29 = .ok (.getfield 224, 3) := by decide +kernel
theorem dX12_ahead_32 : decode cX12_ahead 32 = .ok (.invokestatic 264, 3) := by decide +kernel
theorem dX12_ahead_35 : decode cX12_ahead 35 = .ok (.iconst (-1), 1) := by decide +kernel
theorem dX12_ahead_36 : decode cX12_ahead 36 = .ok (.if_icmp .ne 8, 3) := by decide +kernel
theorem dX12_ahead_39 : decode cX12_ahead 39 = .ok (.aload_n 0, 1) := by decide +kernel
theorem dX12_ahead_40 : decode cX12_ahead 40 = .ok (.iconst 4, 1) := by decide +kernel
theorem dX12_ahead_41 : decode cX12_ahead 41 = .ok (.invokevirtual 257, 3) := by decide +kernel
theorem dX12_ahead_44 : decode cX12_ahead 44 = .ok (.aload_n 0, 1) := by decide +kernel
theorem dX12_ahead_45 : decode cX12_ahead 45 = .ok (.getfield 248, 3) := by decide +kernel
theorem dX12_ahead_48 : decode cX12_ahead 48 = .ok (.ifCond .eq 5, 3) := by decide +kernel
theorem dX12_ahead_51 : decode cX12_ahead 51 = .ok (.iconst 0, 1) := by decide +kernel
theorem dX12_ahead_52 : decode cX12_ahead 52 = .ok (.ireturn, 1) := by decide +kernel
theorem dX12_ahead_53 : decode cX12_ahead 53 = .ok (.aload_n 1, 1) := by decide +kernel
theorem dX12_ahead_54 : decode cX12_ahead 54 = .ok (.iload_n 2, 1) := by decide +kernel
theorem dX12_ahead_55 : decode cX12_ahead 55 = .ok (.iload_n 3, 1) := by decide +kernel
theorem dX12_ahead_56 : decode cX12_ahead 56 = .ok (.aload_n 0, 1) := by decide +kernel
theorem dX12_ahead_57 : decode cX12_ahead 57 = .ok (.getfield 224, 3) := by decide +kernel
theorem dX12_ahead_60 : decode cX12_ahead 60 = .ok (.invokestatic 264, 3) := by decide +kernel
theorem dX12_ahead_63 : decode cX12_ahead 63 = .ok (.istore 4, 2) := by decide +kernel
theorem dX12_ahead_65 : decode cX12_ahead 65 = .ok (.aload_n 0, 1) := by decide +kernel
theorem dX12_ahead_66 : decode cX12_ahead 66 = .ok (.invokevirtual 254, 3) := by decide +kernel
theorem dX12_ahead_69 : decode cX12_ahead 69 = .ok (.iload 4, 2) := by decide +kernel
theorem dX12_ahead_71 : decode cX12_ahead 71 = .ok (.ireturn, 1) := by decide +kernel
theorem dX12_isFull_0 : decode cX12_isFull 0 = .ok (.iload_n 1, 1) := by decide +kernel
theorem dX12_isFull_1 : decode cX12_isFull 1 = .ok (.ifCond .ne 11, 3) := by decide +kernel
theorem dX12_isFull_4 : decode cX12_isFull 4 = .ok (.aload_n 0, 1) := by decide +kernel
theorem dX12_isFull_5 : decode cX12_isFull 5 = .ok (.getfield 268, 3) := by decide +kernel
theorem dX12_isFull_8 : decode cX12_isFull 8 = .ok (.iconst 4, 1) := by decide +kernel
theorem dX12_isFull_9 : decode cX12_isFull 9 = .ok (.if_icmp .eq 56, 3) := by decide +kernel
theorem dX12_isFull_12 : decode cX12_isFull 12 = .ok (.iload_n 1, 1) := by decide +kernel
theorem dX12_isFull_13 : decode cX12_isFull 13 = .ok (.iconst 1, 1) := by decide +kernel
theorem dX12_isFull_14 : decode cX12_isFull 14 = .ok (.if_icmp .ne 11, 3) := by decide +kernel
theorem dX12_isFull_17 : decode cX12_isFull 17 = .ok (.aload_n 0, 1) := by decide +kernel
theorem dX12_isFull_18 : decode cX12_isFull 18 = .ok (.getfield 271, 3) := by decide +kernel
theorem dX12_isFull_21 : decode cX12_isFull 21 = .ok (.iconst 3, 1) := by decide +kernel
theorem dX12_isFull_22 : decode cX12_isFull 22 = .ok (.if_icmp .eq 43, 3) := by decide +kernel
theorem dX12_isFull_25 : decode cX12_isFull 25 = .ok (.iload_n 1, 1) := by decide +kernel
theorem dX12_isFull_26 : decode cX12_isFull 26 = .ok (.iconst 2, 1) := by decide +kernel
theorem dX12_isFull_27 : decode cX12_isFull 27 = .ok (.if_icmp .ne 11, 3) := by decide +kernel
theorem dX12_isFull_30 : decode cX12_isFull 30 = .ok (.aload_n 0, 1) := by decide +kernel
theorem dX12_isFull_31 : decode cX12_isFull 31 = .ok (.getfield 274, 3) := by decide +kernel
theorem dX12_isFull_34 : decode cX12_isFull 34 = .ok (.iconst 5, 1) := by decide +kernel
theorem dX12_isFull_35 : decode cX12_isFull 35 = .ok (.if_icmp .eq 30, 3) := by decide +kernel
theorem dX12_isFull_38 : decode cX12_isFull 38 = .ok (.iload_n 1, 1) := by decide +kernel
theorem dX12_isFull_39 : decode cX12_isFull 39 = .ok (.iconst 3, 1) := by decide +kernel
theorem dX12_isFull_40 : decode cX12_isFull 40 = .ok (.if_icmp .ne 11, 3) := by decide +kernel
theorem dX12_isFull_43 : decode cX12_isFull 43 = .ok (.aload_n 0, 1) := by decide +kernel
theorem dX12_isFull_44 : decode cX12_isFull 44 = .ok (.getfield 277, 3) := by decide +kernel
theorem dX12_isFull_47 : decode cX12_isFull 47 = .ok (.iconst 3, 1) := by decide +kernel
theorem dX12_isFull_48 : decode cX12_isFull 48 = .ok (.if_icmp .eq 17, 3) := by decide +kernel
theorem dX12_isFull_51 : decode cX12_isFull 51 = .ok (.iload_n 1, 1) := by decide +kernel
theorem dX12_isFull_52 : decode cX12_isFull 52 = .ok (.iconst 4, 1) := by decide +kernel
theorem dX12_isFull_53 : decode cX12_isFull 53 = .ok (.if_icmp .ne 16, 3) := by decide +kernel
theorem dX12_isFull_56 : decode cX12_isFull 56 = .ok (.aload_n 0, 1) := by decide +kernel
theorem dX12_isFull_57 : decode cX12_isFull 57 = .ok (.getfield 280, 3) := by decide +kernel
theorem dX12_isFull_60 : decode cX12_isFull 60 = .ok (.bipush 10, 2) := by decide +kernel
theorem dX12_isFull_62 : decode cX12_isFull 62 = .ok (.if_icmp .ne 7, 3) := by decide +kernel
theorem dX12_isFull_65 : decode cX12_isFull 65 = .ok (.iconst 1, 1) := by decide +kernel
theorem dX12_isFull_66 : decode cX12_isFull 66 = .ok (.goto 4, 3) := by decide +kernel
theorem dX12_isFull_69 : decode cX12_isFull 69 = .ok (.iconst 0, 1) := by decide +kernel
theorem dX12_isFull_70 : decode cX12_isFull 70 = .ok (.ireturn, 1) := by decide +kernel
theorem dX12_line_0 : decode cX12_line 0 = .ok (.aload_n 0, 1) := by decide +kernel
theorem dX12_line_1 : decode cX12_line 1 = .ok (.getfield 214, 3) := by decide +kernel
theorem dX12_line_4 : decode cX12_line 4 = .ok (.ifCond .ne 12, 3) := by decide +kernel
theorem dX12_line_7 : decode cX12_line 7 = .ok (.aload_n 0, 1) := by decide +kernel
theorem dX12_line_8 : decode cX12_line 8 = .ok (.getfield 224, 3) := by decide +kernel
theorem dX12_line_11 : decode cX12_line 11 = .ok (.bipush 8, 2) := by decide +kernel
theorem dX12_line_13 : decode cX12_line 13 = .ok (.if_icmp .le 9, 3) := by decide +kernel
theorem dX12_line_16 : decode cX12_line 16 = .ok (.aload_n 0, 1) := by decide +kernel
theorem dX12_line_17 : decode cX12_line 17 = .ok (.iconst 1, 1) := by decide +kernel
theorem dX12_line_18 : decode cX12_line 18 = .ok (.invokevirtual 257, 3) := by decide +kernel
theorem dX12_line_21 : decode cX12_line 21 = .ok (.return_, 1) := by decide +kernel
theorem dX12_line_22 : decode cX12_line 22 = .ok (.aload_n 0, 1) := by decide +kernel
theorem dX12_line_23 : decode cX12_line 23 = .ok (.getfield 224, 3) := by decide +kernel
theorem dX12_line_26 : decode cX12_line 26 = .ok (.istore_n 1, 1) := by decide +kernel
theorem dX12_line_27 : decode cX12_line 27 = .ok (.aload_n 0, 1) := by decide +kernel
theorem dX12_line_28 : decode cX12_line 28 = .ok (.iload_n 1, 1) := by decide +kernel
theorem dX12_line_29 : decode cX12_line 29 = .ok (.invokevirtual 283, 3) := by decide +kernel
theorem dX12_line_32 : decode cX12_line 32 = .ok (.ifCond .eq 11, 3) := by decide +kernel
theorem dX12_line_35 : decode cX12_line 35 = .ok (.aload_n 0, 1) := by decide +kernel
theorem dX12_line_36 : decode cX12_line 36 = .ok (.iconst 2, 1) := by decide +kernel
theorem dX12_line_37 : decode cX12_line 37 = .ok (.invokevirtual 257, 3) := by decide +kernel
theorem dX12_line_40 : decode cX12_line 40 = .ok (.goto 26, 3) := by decide +kernel
theorem dX12_line_43 : decode cX12_line 43 = .ok (.iload_n 1, 1) := by decide +kernel
theorem dX12_line_44 : decode cX12_line 44 = .ok (.bipush 6, 2) := by decide +kernel
theorem dX12_line_46 : decode cX12_line 46 = .ok (.if_icmp .lt 20, 3) := by decide +kernel
theorem dX12_line_49 : decode cX12_line 49 = .ok (.aload_n 0, 1) := by decide +kernel
theorem dX12_line_50 : decode cX12_line 50 = .ok (.getfield 286, 3) := by decide +kernel
theorem dX12_line_53 : decode cX12_line 53 = .ok (.iload_n 1, 1) := by decide +kernel
theorem dX12_line_54 : decode cX12_line 54 = .ok (.ishr, 1) := by decide +kernel
theorem dX12_line_55 : decode cX12_line 55 = .ok (.iconst 1, 1) := by decide +kernel
theorem dX12_line_56 : decode cX12_line 56 = .ok (.iand, 1) := by decide +kernel
theorem dX12_line_57 : decode cX12_line 57 = .ok (.iconst 1, 1) := by decide +kernel
theorem dX12_line_58 : decode cX12_line 58 = .ok (.if_icmp .ne 8, 3) := by decide +kernel
theorem dX12_line_61 : decode cX12_line 61 = .ok (.aload_n 0, 1) := by decide +kernel
theorem dX12_line_62 : decode cX12_line 62 = .ok (.iconst 3, 1) := by decide +kernel
theorem dX12_line_63 : decode cX12_line 63 = .ok (.invokevirtual 257, 3) := by decide +kernel
theorem dX12_line_66 : decode cX12_line 66 = .ok (.aload_n 0, 1) := by decide +kernel
theorem dX12_line_67 : decode cX12_line 67 = .ok (.getfield 248, 3) := by decide +kernel
theorem dX12_line_70 : decode cX12_line 70 = .ok (.ifCond .eq 4, 3) := by decide +kernel
theorem dX12_line_73 : decode cX12_line 73 = .ok (.return_, 1) := by decide +kernel
theorem dX12_line_74 : decode cX12_line 74 = .ok (.aload_n 0, 1) := by decide +kernel
theorem dX12_line_75 : decode cX12_line 75 = .ok (.dup, 1) := by decide +kernel
theorem dX12_line_76 : decode cX12_line 76 = .ok (.getfield 286, 3) := by decide +kernel
theorem dX12_line_79 : decode cX12_line 79 = .ok (.iconst 1, 1) := by decide +kernel
theorem dX12_line_80 : decode cX12_line 80 = .ok (.iload_n 1, 1) := by decide +kernel
theorem dX12_line_81 : decode cX12_line 81 = .ok (.ishl, 1) := by decide +kernel
theorem dX12_line_82 : decode cX12_line 82 = .ok (.ior, 1) := by decide +kernel
theorem dX12_line_83 : decode cX12_line 83 = .ok (.putfield 286, 3) := by decide +kernel
theorem dX12_line_86 : decode cX12_line 86 = .ok (.aload_n 0, 1) := by decide +kernel
theorem dX12_line_87 : decode cX12_line 87 = .ok (.invokevirtual 254, 3) := by decide +kernel
theorem dX12_line_90 : decode cX12_line 90 = .ok (.iload_n 1, 1) := by decide +kernel
theorem dX12_line_91 : decode cX12_line 91 = .ok (.tableswitch 328 0 7 #[45, 91, 155, 168, 261, 275, 282, 305], 45) := by decide +kernel
theorem dX12_line_136 : decode cX12_line 136 = .ok (.aload_n 0, 1) := by decide +kernel
theorem dX12_line_137 : decode cX12_line 137 = .ok (.getfield 15, 3) := by decide +kernel
theorem dX12_line_140 : decode cX12_line 140 = .ok (.iconst 4, 1) := by decide +kernel
theorem dX12_line_141 : decode cX12_line 141 = .ok (.aload_n 0, 1) := by decide +kernel
theorem dX12_line_142 : decode cX12_line 142 = .ok (.getfield 268, 3) := by decide +kernel
theorem dX12_line_145 : decode cX12_line 145 = .ok (.iadd, 1) := by decide +kernel
theorem dX12_line_146 : decode cX12_line 146 = .ok (.aload_n 0, 1) := by decide +kernel
theorem dX12_line_147 : decode cX12_line 147 = .ok (.invokevirtual 289, 3) := by decide +kernel
theorem dX12_line_150 : decode cX12_line 150 = .ok (.iastore, 1) := by decide +kernel
theorem dX12_line_151 : decode cX12_line 151 = .ok (.aload_n 0, 1) := by decide +kernel
theorem dX12_line_152 : decode cX12_line 152 = .ok (.getfield 18, 3) := by decide +kernel
theorem dX12_line_155 : decode cX12_line 155 = .ok (.iconst 4, 1) := by decide +kernel
theorem dX12_line_156 : decode cX12_line 156 = .ok (.aload_n 0, 1) := by decide +kernel
theorem dX12_line_157 : decode cX12_line 157 = .ok (.getfield 268, 3) := by decide +kernel
theorem dX12_line_160 : decode cX12_line 160 = .ok (.iadd, 1) := by decide +kernel
theorem dX12_line_161 : decode cX12_line 161 = .ok (.aload_n 0, 1) := by decide +kernel
theorem dX12_line_162 : decode cX12_line 162 = .ok (.iconst 4, 1) := by decide +kernel
theorem dX12_line_163 : decode cX12_line 163 = .ok (.bipush 30, 2) := by decide +kernel
theorem dX12_line_165 : decode cX12_line 165 = .ok (.invokevirtual 292, 3) := by decide +kernel
theorem dX12_line_168 : decode cX12_line 168 = .ok (.iastore, 1) := by decide +kernel
theorem dX12_line_169 : decode cX12_line 169 = .ok (.aload_n 0, 1) := by decide +kernel
theorem dX12_line_170 : decode cX12_line 170 = .ok (.dup, 1) := by decide +kernel
theorem dX12_line_171 : decode cX12_line 171 = .ok (.getfield 268, 3) := by decide +kernel
theorem dX12_line_174 : decode cX12_line 174 = .ok (.iconst 1, 1) := by decide +kernel
theorem dX12_line_175 : decode cX12_line 175 = .ok (.iadd, 1) := by decide +kernel
theorem dX12_line_176 : decode cX12_line 176 = .ok (.putfield 268, 3) := by decide +kernel
theorem dX12_line_179 : decode cX12_line 179 = .ok (.goto 263, 3) := by decide +kernel
theorem dX12_line_182 : decode cX12_line 182 = .ok (.aload_n 0, 1) := by decide +kernel
theorem dX12_line_183 : decode cX12_line 183 = .ok (.getfield 21, 3) := by decide +kernel
theorem dX12_line_186 : decode cX12_line 186 = .ok (.iconst 3, 1) := by decide +kernel
theorem dX12_line_187 : decode cX12_line 187 = .ok (.aload_n 0, 1) := by decide +kernel
theorem dX12_line_188 : decode cX12_line 188 = .ok (.getfield 271, 3) := by decide +kernel
theorem dX12_line_191 : decode cX12_line 191 = .ok (.iadd, 1) := by decide +kernel
theorem dX12_line_192 : decode cX12_line 192 = .ok (.aload_n 0, 1) := by decide +kernel
theorem dX12_line_193 : decode cX12_line 193 = .ok (.invokevirtual 289, 3) := by decide +kernel
theorem dX12_line_196 : decode cX12_line 196 = .ok (.iastore, 1) := by decide +kernel
theorem dX12_line_197 : decode cX12_line 197 = .ok (.aload_n 0, 1) := by decide +kernel
theorem dX12_line_198 : decode cX12_line 198 = .ok (.getfield 24, 3) := by decide +kernel
theorem dX12_line_201 : decode cX12_line 201 = .ok (.iconst 3, 1) := by decide +kernel
theorem dX12_line_202 : decode cX12_line 202 = .ok (.aload_n 0, 1) := by decide +kernel
theorem dX12_line_203 : decode cX12_line 203 = .ok (.getfield 271, 3) := by decide +kernel
theorem dX12_line_206 : decode cX12_line 206 = .ok (.iadd, 1) := by decide +kernel
theorem dX12_line_207 : decode cX12_line 207 = .ok (.aload_n 0, 1) := by decide +kernel
theorem dX12_line_208 : decode cX12_line 208 = .ok (.iconst 4, 1) := by decide +kernel
theorem dX12_line_209 : decode cX12_line 209 = .ok (.bipush 40, 2) := by decide +kernel
theorem dX12_line_211 : decode cX12_line 211 = .ok (.invokevirtual 292, 3) := by decide +kernel
theorem dX12_line_214 : decode cX12_line 214 = .ok (.iastore, 1) := by decide +kernel
theorem dX12_line_215 : decode cX12_line 215 = .ok (.aload_n 0, 1) := by decide +kernel
theorem dX12_line_216 : decode cX12_line 216 = .ok (.getfield 27, 3) := by decide +kernel
theorem dX12_line_219 : decode cX12_line 219 = .ok (.iconst 3, 1) := by decide +kernel
theorem dX12_line_220 : decode cX12_line 220 = .ok (.aload_n 0, 1) := by decide +kernel
theorem dX12_line_221 : decode cX12_line 221 = .ok (.getfield 271, 3) := by decide +kernel
theorem dX12_line_224 : decode cX12_line 224 = .ok (.iadd, 1) := by decide +kernel
theorem dX12_line_225 : decode cX12_line 225 = .ok (.aload_n 0, 1) := by decide +kernel
theorem dX12_line_226 : decode cX12_line 226 = .ok (.iconst 0, 1) := by decide +kernel
theorem dX12_line_227 : decode cX12_line 227 = .ok (.bipush 9, 2) := by decide +kernel
theorem dX12_line_229 : decode cX12_line 229 = .ok (.invokevirtual 292, 3) := by decide +kernel
theorem dX12_line_232 : decode cX12_line 232 = .ok (.iastore, 1) := by decide +kernel
theorem dX12_line_233 : decode cX12_line 233 = .ok (.aload_n 0, 1) := by decide +kernel
theorem dX12_line_234 : decode cX12_line 234 = .ok (.dup, 1) := by decide +kernel
theorem dX12_line_235 : decode cX12_line 235 = .ok (.getfield 271, 3) := by decide +kernel
theorem dX12_line_238 : decode cX12_line 238 = .ok (.iconst 1, 1) := by decide +kernel
theorem dX12_line_239 : decode cX12_line 239 = .ok (.iadd, 1) := by decide +kernel
theorem dX12_line_240 : decode cX12_line 240 = .ok (.putfield 271, 3) := by decide +kernel
theorem dX12_line_243 : decode cX12_line 243 = .ok (.goto 199, 3) := by decide +kernel
theorem dX12_line_246 : decode cX12_line 246 = .ok (.aload_n 0, 1) := by decide +kernel
theorem dX12_line_247 : decode cX12_line 247 = .ok (.iconst 5, 1) := by decide +kernel
theorem dX12_line_248 : decode cX12_line 248 = .ok (.aload_n 0, 1) := by decide +kernel
theorem dX12_line_249 : decode cX12_line 249 = .ok (.getfield 274, 3) := by decide +kernel
theorem dX12_line_252 : decode cX12_line 252 = .ok (.iadd, 1) := by decide +kernel
theorem dX12_line_253 : decode cX12_line 253 = .ok (.invokevirtual 296, 3) := by decide +kernel
theorem dX12_line_256 : decode cX12_line 256 = .ok (.goto 186, 3) := by decide +kernel
theorem dX12_line_259 : decode cX12_line 259 = .ok (.aload_n 0, 1) := by decide +kernel
theorem dX12_line_260 : decode cX12_line 260 = .ok (.getfield 54, 3) := by decide +kernel
theorem dX12_line_263 : decode cX12_line 263 = .ok (.iconst 3, 1) := by decide +kernel
theorem dX12_line_264 : decode cX12_line 264 = .ok (.aload_n 0, 1) := by decide +kernel
theorem dX12_line_265 : decode cX12_line 265 = .ok (.getfield 277, 3) := by decide +kernel
theorem dX12_line_268 : decode cX12_line 268 = .ok (.iadd, 1) := by decide +kernel
theorem dX12_line_269 : decode cX12_line 269 = .ok (.aload_n 0, 1) := by decide +kernel
theorem dX12_line_270 : decode cX12_line 270 = .ok (.aload_n 0, 1) := by decide +kernel
theorem dX12_line_271 : decode cX12_line 271 = .ok (.getfield 54, 3) := by decide +kernel
theorem dX12_line_274 : decode cX12_line 274 = .ok (.iconst 3, 1) := by decide +kernel
theorem dX12_line_275 : decode cX12_line 275 = .ok (.aload_n 0, 1) := by decide +kernel
theorem dX12_line_276 : decode cX12_line 276 = .ok (.getfield 277, 3) := by decide +kernel
theorem dX12_line_279 : decode cX12_line 279 = .ok (.invokevirtual 299, 3) := by decide +kernel
theorem dX12_line_282 : decode cX12_line 282 = .ok (.iastore, 1) := by decide +kernel
theorem dX12_line_283 : decode cX12_line 283 = .ok (.aload_n 0, 1) := by decide +kernel
theorem dX12_line_284 : decode cX12_line 284 = .ok (.getfield 57, 3) := by decide +kernel
theorem dX12_line_287 : decode cX12_line 287 = .ok (.iconst 3, 1) := by decide +kernel
theorem dX12_line_288 : decode cX12_line 288 = .ok (.aload_n 0, 1) := by decide +kernel
theorem dX12_line_289 : decode cX12_line 289 = .ok (.getfield 277, 3) := by decide +kernel
theorem dX12_line_292 : decode cX12_line 292 = .ok (.iadd, 1) := by decide +kernel
theorem dX12_line_293 : decode cX12_line 293 = .ok (.aload_n 0, 1) := by decide +kernel
theorem dX12_line_294 : decode cX12_line 294 = .ok (.iconst 0, 1) := by decide +kernel
theorem dX12_line_295 : decode cX12_line 295 = .ok (.bipush 9, 2) := by decide +kernel
theorem dX12_line_297 : decode cX12_line 297 = .ok (.invokevirtual 292, 3) := by decide +kernel
theorem dX12_line_300 : decode cX12_line 300 = .ok (.iastore, 1) := by decide +kernel
theorem dX12_line_301 : decode cX12_line 301 = .ok (.aload_n 0, 1) := by decide +kernel
theorem dX12_line_302 : decode cX12_line 302 = .ok (.getfield 60, 3) := by decide +kernel
theorem dX12_line_305 : decode cX12_line 305 = .ok (.iconst 3, 1) := by decide +kernel
theorem dX12_line_306 : decode cX12_line 306 = .ok (.aload_n 0, 1) := by decide +kernel
theorem dX12_line_307 : decode cX12_line 307 = .ok (.getfield 277, 3) := by decide +kernel
theorem dX12_line_310 : decode cX12_line 310 = .ok (.iadd, 1) := by decide +kernel
theorem dX12_line_311 : decode cX12_line 311 = .ok (.aload_n 0, 1) := by decide +kernel
theorem dX12_line_312 : decode cX12_line 312 = .ok (.iconst 0, 1) := by decide +kernel
theorem dX12_line_313 : decode cX12_line 313 = .ok (.bipush 99, 2) := by decide +kernel
theorem dX12_line_315 : decode cX12_line 315 = .ok (.invokevirtual 292, 3) := by decide +kernel
theorem dX12_line_318 : decode cX12_line 318 = .ok (.iastore, 1) := by decide +kernel
theorem dX12_line_319 : decode cX12_line 319 = .ok (.aload_n 0, 1) := by decide +kernel
theorem dX12_line_320 : decode cX12_line 320 = .ok (.getfield 63, 3) := by decide +kernel
theorem dX12_line_323 : decode cX12_line 323 = .ok (.iconst 3, 1) := by decide +kernel
theorem dX12_line_324 : decode cX12_line 324 = .ok (.aload_n 0, 1) := by decide +kernel
theorem dX12_line_325 : decode cX12_line 325 = .ok (.getfield 277, 3) := by decide +kernel
theorem dX12_line_328 : decode cX12_line 328 = .ok (.iadd, 1) := by decide +kernel
theorem dX12_line_329 : decode cX12_line 329 = .ok (.aload_n 0, 1) := by decide +kernel
theorem dX12_line_330 : decode cX12_line 330 = .ok (.bipush 10, 2) := by decide +kernel
theorem dX12_line_332 : decode cX12_line 332 = .ok (.sipush 600, 3) := by decide +kernel
theorem dX12_line_335 : decode cX12_line 335 = .ok (.invokevirtual 292, 3) := by decide +kernel
theorem dX12_line_338 : decode cX12_line 338 = .ok (.iastore, 1) := by decide +kernel
theorem dX12_line_339 : decode cX12_line 339 = .ok (.aload_n 0, 1) := by decide +kernel
theorem dX12_line_340 : decode cX12_line 340 = .ok (.dup, 1) := by decide +kernel
theorem dX12_line_341 : decode cX12_line 341 = .ok (.getfield 277, 3) := by decide +kernel
theorem dX12_line_344 : decode cX12_line 344 = .ok (.iconst 1, 1) := by decide +kernel
theorem dX12_line_345 : decode cX12_line 345 = .ok (.iadd, 1) := by decide +kernel
theorem dX12_line_346 : decode cX12_line 346 = .ok (.putfield 277, 3) := by decide +kernel
theorem dX12_line_349 : decode cX12_line 349 = .ok (.goto 93, 3) := by decide +kernel
theorem dX12_line_352 : decode cX12_line 352 = .ok (.aload_n 0, 1) := by decide +kernel
theorem dX12_line_353 : decode cX12_line 353 = .ok (.bipush 10, 2) := by decide +kernel
theorem dX12_line_355 : decode cX12_line 355 = .ok (.aload_n 0, 1) := by decide +kernel
theorem dX12_line_356 : decode cX12_line 356 = .ok (.getfield 280, 3) := by decide +kernel
theorem dX12_line_359 : decode cX12_line 359 = .ok (.iadd, 1) := by decide +kernel
theorem dX12_line_360 : decode cX12_line 360 = .ok (.invokevirtual 303, 3) := by decide +kernel
theorem dX12_line_363 : decode cX12_line 363 = .ok (.goto 79, 3) := by decide +kernel
theorem dX12_line_366 : decode cX12_line 366 = .ok (.aload_n 0, 1) := by decide +kernel
theorem dX12_line_367 : decode cX12_line 367 = .ok (.invokevirtual 306, 3) := by decide +kernel
theorem dX12_line_370 : decode cX12_line 370 = .ok (.goto 72, 3) := by decide +kernel
theorem dX12_line_373 : decode cX12_line 373 = .ok (.aload_n 0, 1) := by decide +kernel
theorem dX12_line_374 : decode cX12_line 374 = .ok (.aload_n 0, 1) := by decide +kernel
theorem dX12_line_375 : decode cX12_line 375 = .ok (.getfield 309, 3) := by decide +kernel
theorem dX12_line_378 : decode cX12_line 378 = .ok (.putfield 312, 3) := by decide +kernel
theorem dX12_line_381 : decode cX12_line 381 = .ok (.aload_n 0, 1) := by decide +kernel
theorem dX12_line_382 : decode cX12_line 382 = .ok (.invokevirtual 315, 3) := by decide +kernel
theorem dX12_line_385 : decode cX12_line 385 = .ok (.aload_n 0, 1) := by decide +kernel
theorem dX12_line_386 : decode cX12_line 386 = .ok (.aload_n 0, 1) := by decide +kernel
theorem dX12_line_387 : decode cX12_line 387 = .ok (.getfield 309, 3) := by decide +kernel
theorem dX12_line_390 : decode cX12_line 390 = .ok (.putfield 318, 3) := by decide +kernel
theorem dX12_line_393 : decode cX12_line 393 = .ok (.goto 49, 3) := by decide +kernel
theorem dX12_line_396 : decode cX12_line 396 = .ok (.aload_n 0, 1) := by decide +kernel
theorem dX12_line_397 : decode cX12_line 397 = .ok (.aload_n 0, 1) := by decide +kernel
theorem dX12_line_398 : decode cX12_line 398 = .ok (.getfield 309, 3) := by decide +kernel
theorem dX12_line_401 : decode cX12_line 401 = .ok (.putfield 321, 3) := by decide +kernel
theorem dX12_line_404 : decode cX12_line 404 = .ok (.aload_n 0, 1) := by decide +kernel
theorem dX12_line_405 : decode cX12_line 405 = .ok (.invokevirtual 315, 3) := by decide +kernel
theorem dX12_line_408 : decode cX12_line 408 = .ok (.aload_n 0, 1) := by decide +kernel
theorem dX12_line_409 : decode cX12_line 409 = .ok (.aload_n 0, 1) := by decide +kernel
theorem dX12_line_410 : decode cX12_line 410 = .ok (.getfield 309, 3) := by decide +kernel
theorem dX12_line_413 : decode cX12_line 413 = .ok (.putfield 324, 3) := by decide +kernel
theorem dX12_line_416 : decode cX12_line 416 = .ok (.goto 26, 3) := by decide +kernel
theorem dX12_line_419 : decode cX12_line 419 = .ok (.aload_n 0, 1) := by decide +kernel
theorem dX12_line_420 : decode cX12_line 420 = .ok (.aload_n 0, 1) := by decide +kernel
theorem dX12_line_421 : decode cX12_line 421 = .ok (.iconst 1, 1) := by decide +kernel
theorem dX12_line_422 : decode cX12_line 422 = .ok (.sipush 999, 3) := by decide +kernel
theorem dX12_line_425 : decode cX12_line 425 = .ok (.invokevirtual 292, 3) := by decide +kernel
theorem dX12_line_428 : decode cX12_line 428 = .ok (.putfield 327, 3) := by decide +kernel
theorem dX12_line_431 : decode cX12_line 431 = .ok (.aload_n 0, 1) := by decide +kernel
theorem dX12_line_432 : decode cX12_line 432 = .ok (.aload_n 0, 1) := by decide +kernel
theorem dX12_line_433 : decode cX12_line 433 = .ok (.iconst 1, 1) := by decide +kernel
theorem dX12_line_434 : decode cX12_line 434 = .ok (.bipush 99, 2) := by decide +kernel
theorem dX12_line_436 : decode cX12_line 436 = .ok (.invokevirtual 292, 3) := by decide +kernel
theorem dX12_line_439 : decode cX12_line 439 = .ok (.putfield 330, 3) := by decide +kernel
theorem dX12_line_442 : decode cX12_line 442 = .ok (.aload_n 0, 1) := by decide +kernel
theorem dX12_line_443 : decode cX12_line 443 = .ok (.getfield 248, 3) := by decide +kernel
theorem dX12_line_446 : decode cX12_line 446 = .ok (.ifCond .eq 4, 3) := by decide +kernel
theorem dX12_line_449 : decode cX12_line 449 = .ok (.return_, 1) := by decide +kernel
theorem dX12_line_450 : decode cX12_line 450 = .ok (.aload_n 0, 1) := by decide +kernel
theorem dX12_line_451 : decode cX12_line 451 = .ok (.bipush 59, 2) := by decide +kernel
theorem dX12_line_453 : decode cX12_line 453 = .ok (.invokevirtual 333, 3) := by decide +kernel
theorem dX12_line_456 : decode cX12_line 456 = .ok (.ifCond .ne 11, 3) := by decide +kernel
theorem dX12_line_459 : decode cX12_line 459 = .ok (.aload_n 0, 1) := by decide +kernel
theorem dX12_line_460 : decode cX12_line 460 = .ok (.iconst 1, 1) := by decide +kernel
theorem dX12_line_461 : decode cX12_line 461 = .ok (.invokevirtual 257, 3) := by decide +kernel
theorem dX12_line_464 : decode cX12_line 464 = .ok (.goto 7, 3) := by decide +kernel
theorem dX12_line_467 : decode cX12_line 467 = .ok (.aload_n 0, 1) := by decide +kernel
theorem dX12_line_468 : decode cX12_line 468 = .ok (.invokevirtual 254, 3) := by decide +kernel
theorem dX12_line_471 : decode cX12_line 471 = .ok (.aload_n 0, 1) := by decide +kernel
theorem dX12_line_472 : decode cX12_line 472 = .ok (.dup, 1) := by decide +kernel
theorem dX12_line_473 : decode cX12_line 473 = .ok (.getfield 336, 3) := by decide +kernel
theorem dX12_line_476 : decode cX12_line 476 = .ok (.iconst 1, 1) := by decide +kernel
theorem dX12_line_477 : decode cX12_line 477 = .ok (.iadd, 1) := by decide +kernel
theorem dX12_line_478 : decode cX12_line 478 = .ok (.putfield 336, 3) := by decide +kernel
theorem dX12_line_481 : decode cX12_line 481 = .ok (.return_, 1) := by decide +kernel
theorem dX12_frontLine_0 : decode cX12_frontLine 0 = .ok (.aload_n 0, 1) := by decide +kernel
theorem dX12_frontLine_1 : decode cX12_frontLine 1 = .ok (.getfield 30, 3) := by decide +kernel
theorem dX12_frontLine_4 : decode cX12_frontLine 4 = .ok (.iload_n 1, 1) := by decide +kernel
theorem dX12_frontLine_5 : decode cX12_frontLine 5 = .ok (.aload_n 0, 1) := by decide +kernel
theorem dX12_frontLine_6 : decode cX12_frontLine 6 = .ok (.aload_n 0, 1) := by decide +kernel
theorem dX12_frontLine_7 : decode cX12_frontLine 7 = .ok (.getfield 30, 3) := by decide +kernel
theorem dX12_frontLine_10 : decode cX12_frontLine 10 = .ok (.iconst 5, 1) := by decide +kernel
theorem dX12_frontLine_11 : decode cX12_frontLine 11 = .ok (.aload_n 0, 1) := by decide +kernel
theorem dX12_frontLine_12 : decode cX12_frontLine 12 = .ok (.getfield 274, 3) := by decide +kernel
theorem dX12_frontLine_15 : decode cX12_frontLine 15 = .ok (.invokevirtual 299, 3) := by decide +kernel
theorem dX12_frontLine_18 : decode cX12_frontLine 18 = .ok (.iastore, 1) := by decide +kernel
theorem dX12_frontLine_19 : decode cX12_frontLine 19 = .ok (.aload_n 0, 1) := by decide +kernel
theorem dX12_frontLine_20 : decode cX12_frontLine 20 = .ok (.getfield 33, 3) := by decide +kernel
theorem dX12_frontLine_23 : decode cX12_frontLine 23 = .ok (.iload_n 1, 1) := by decide +kernel
theorem dX12_frontLine_24 : decode cX12_frontLine 24 = .ok (.aload_n 0, 1) := by decide +kernel
theorem dX12_frontLine_25 : decode cX12_frontLine 25 = .ok (.iconst 1, 1) := by decide +kernel
theorem dX12_frontLine_26 : decode cX12_frontLine 26 = .ok (.bipush 12, 2) := by decide +kernel
theorem dX12_frontLine_28 : decode cX12_frontLine 28 = .ok (.invokevirtual 292, 3) := by decide +kernel
theorem dX12_frontLine_31 : decode cX12_frontLine 31 = .ok (.iastore, 1) := by decide +kernel
theorem dX12_frontLine_32 : decode cX12_frontLine 32 = .ok (.aload_n 0, 1) := by decide +kernel
theorem dX12_frontLine_33 : decode cX12_frontLine 33 = .ok (.getfield 36, 3) := by decide +kernel
theorem dX12_frontLine_36 : decode cX12_frontLine 36 = .ok (.iload_n 1, 1) := by decide +kernel
theorem dX12_frontLine_37 : decode cX12_frontLine 37 = .ok (.aload_n 0, 1) := by decide +kernel
theorem dX12_frontLine_38 : decode cX12_frontLine 38 = .ok (.iconst 1, 1) := by decide +kernel
theorem dX12_frontLine_39 : decode cX12_frontLine 39 = .ok (.bipush 24, 2) := by decide +kernel
theorem dX12_frontLine_41 : decode cX12_frontLine 41 = .ok (.invokevirtual 292, 3) := by decide +kernel
theorem dX12_frontLine_44 : decode cX12_frontLine 44 = .ok (.iastore, 1) := by decide +kernel
theorem dX12_frontLine_45 : decode cX12_frontLine 45 = .ok (.aload_n 0, 1) := by decide +kernel
theorem dX12_frontLine_46 : decode cX12_frontLine 46 = .ok (.getfield 39, 3) := by decide +kernel
theorem dX12_frontLine_49 : decode cX12_frontLine 49 = .ok (.iload_n 1, 1) := by decide +kernel
theorem dX12_frontLine_50 : decode cX12_frontLine 50 = .ok (.iconst 0, 1) := by decide +kernel
theorem dX12_frontLine_51 : decode cX12_frontLine 51 = .ok (.iastore, 1) := by decide +kernel
theorem dX12_frontLine_52 : decode cX12_frontLine 52 = .ok (.aload_n 0, 1) := by decide +kernel
theorem dX12_frontLine_53 : decode cX12_frontLine 53 = .ok (.getfield 42, 3) := by decide +kernel
theorem dX12_frontLine_56 : decode cX12_frontLine 56 = .ok (.iload_n 1, 1) := by decide +kernel
theorem dX12_frontLine_57 : decode cX12_frontLine 57 = .ok (.iconst 0, 1) := by decide +kernel
theorem dX12_frontLine_58 : decode cX12_frontLine 58 = .ok (.iastore, 1) := by decide +kernel
theorem dX12_frontLine_59 : decode cX12_frontLine 59 = .ok (.aload_n 0, 1) := by decide +kernel
theorem dX12_frontLine_60 : decode cX12_frontLine 60 = .ok (.getfield 45, 3) := by decide +kernel
theorem dX12_frontLine_63 : decode cX12_frontLine 63 = .ok (.iload_n 1, 1) := by decide +kernel
theorem dX12_frontLine_64 : decode cX12_frontLine 64 = .ok (.iconst 0, 1) := by decide +kernel
theorem dX12_frontLine_65 : decode cX12_frontLine 65 = .ok (.iastore, 1) := by decide +kernel
theorem dX12_frontLine_66 : decode cX12_frontLine 66 = .ok (.aload_n 0, 1) := by decide +kernel
theorem dX12_frontLine_67 : decode cX12_frontLine 67 = .ok (.bipush 9, 2) := by decide +kernel
theorem dX12_frontLine_69 : decode cX12_frontLine 69 = .ok (.invokevirtual 339, 3) := by decide +kernel
theorem dX12_frontLine_72 : decode cX12_frontLine 72 = .ok (.ifCond .ne 21, 3) := by decide +kernel
theorem dX12_frontLine_75 : decode cX12_frontLine 75 = .ok (.aload_n 0, 1) := by decide +kernel
theorem dX12_frontLine_76 : decode cX12_frontLine 76 = .ok (.bipush 10, 2) := by decide +kernel
theorem dX12_frontLine_78 : decode cX12_frontLine 78 = .ok (.invokevirtual 339, 3) := by decide +kernel
theorem dX12_frontLine_81 : decode cX12_frontLine 81 = .ok (.ifCond .ne 12, 3) := by decide +kernel
theorem dX12_frontLine_84 : decode cX12_frontLine 84 = .ok (.aload_n 0, 1) := by decide +kernel
theorem dX12_frontLine_85 : decode cX12_frontLine 85 = .ok (.bipush 11, 2) := by decide +kernel
theorem dX12_frontLine_87 : decode cX12_frontLine 87 = .ok (.invokevirtual 339, 3) := by decide +kernel
theorem dX12_frontLine_90 : decode cX12_frontLine 90 = .ok (.ifCond .eq 108, 3) := by decide +kernel
theorem dX12_frontLine_93 : decode cX12_frontLine 93 = .ok (.aload_n 0, 1) := by decide +kernel
theorem dX12_frontLine_94 : decode cX12_frontLine 94 = .ok (.getfield 224, 3) := by decide +kernel
theorem dX12_frontLine_97 : decode cX12_frontLine 97 = .ok (.istore_n 2, 1) := by decide +kernel
theorem dX12_frontLine_98 : decode cX12_frontLine 98 = .ok (.iload_n 2, 1) := by decide +kernel
theorem dX12_frontLine_99 : decode cX12_frontLine 99 = .ok (.bipush 9, 2) := by decide +kernel
theorem dX12_frontLine_101 : decode cX12_frontLine 101 = .ok (.if_icmp .ne 19, 3) := by decide +kernel
theorem dX12_frontLine_104 : decode cX12_frontLine 104 = .ok (.aload_n 0, 1) := by decide +kernel
theorem dX12_frontLine_105 : decode cX12_frontLine 105 = .ok (.getfield 45, 3) := by decide +kernel
theorem dX12_frontLine_108 : decode cX12_frontLine 108 = .ok (.iload_n 1, 1) := by decide +kernel
theorem dX12_frontLine_109 : decode cX12_frontLine 109 = .ok (.iaload, 1) := by decide +kernel
theorem dX12_frontLine_110 : decode cX12_frontLine 110 = .ok (.bipush 12, 2) := by decide +kernel
theorem dX12_frontLine_112 : decode cX12_frontLine 112 = .ok (.if_icmp .ne 8, 3) := by decide +kernel
theorem dX12_frontLine_115 : decode cX12_frontLine 115 = .ok (.aload_n 0, 1) := by decide +kernel
theorem dX12_frontLine_116 : decode cX12_frontLine 116 = .ok (.iconst 2, 1) := by decide +kernel
theorem dX12_frontLine_117 : decode cX12_frontLine 117 = .ok (.invokevirtual 257, 3) := by decide +kernel
theorem dX12_frontLine_120 : decode cX12_frontLine 120 = .ok (.aload_n 0, 1) := by decide +kernel
theorem dX12_frontLine_121 : decode cX12_frontLine 121 = .ok (.invokevirtual 342, 3) := by decide +kernel
theorem dX12_frontLine_124 : decode cX12_frontLine 124 = .ok (.iload_n 2, 1) := by decide +kernel
theorem dX12_frontLine_125 : decode cX12_frontLine 125 = .ok (.bipush 10, 2) := by decide +kernel
theorem dX12_frontLine_127 : decode cX12_frontLine 127 = .ok (.if_icmp .ne 30, 3) := by decide +kernel
theorem dX12_frontLine_130 : decode cX12_frontLine 130 = .ok (.aload_n 0, 1) := by decide +kernel
theorem dX12_frontLine_131 : decode cX12_frontLine 131 = .ok (.getfield 39, 3) := by decide +kernel
theorem dX12_frontLine_134 : decode cX12_frontLine 134 = .ok (.iload_n 1, 1) := by decide +kernel
theorem dX12_frontLine_135 : decode cX12_frontLine 135 = .ok (.aload_n 0, 1) := by decide +kernel
theorem dX12_frontLine_136 : decode cX12_frontLine 136 = .ok (.aload_n 0, 1) := by decide +kernel
theorem dX12_frontLine_137 : decode cX12_frontLine 137 = .ok (.getfield 39, 3) := by decide +kernel
theorem dX12_frontLine_140 : decode cX12_frontLine 140 = .ok (.iload_n 1, 1) := by decide +kernel
theorem dX12_frontLine_141 : decode cX12_frontLine 141 = .ok (.iaload, 1) := by decide +kernel
theorem dX12_frontLine_142 : decode cX12_frontLine 142 = .ok (.aload_n 0, 1) := by decide +kernel
theorem dX12_frontLine_143 : decode cX12_frontLine 143 = .ok (.getfield 33, 3) := by decide +kernel
theorem dX12_frontLine_146 : decode cX12_frontLine 146 = .ok (.iload_n 1, 1) := by decide +kernel
theorem dX12_frontLine_147 : decode cX12_frontLine 147 = .ok (.iaload, 1) := by decide +kernel
theorem dX12_frontLine_148 : decode cX12_frontLine 148 = .ok (.iconst 1, 1) := by decide +kernel
theorem dX12_frontLine_149 : decode cX12_frontLine 149 = .ok (.isub, 1) := by decide +kernel
theorem dX12_frontLine_150 : decode cX12_frontLine 150 = .ok (.invokevirtual 345, 3) := by decide +kernel
theorem dX12_frontLine_153 : decode cX12_frontLine 153 = .ok (.iastore, 1) := by decide +kernel
theorem dX12_frontLine_154 : decode cX12_frontLine 154 = .ok (.goto 41, 3) := by decide +kernel
theorem dX12_frontLine_157 : decode cX12_frontLine 157 = .ok (.iload_n 2, 1) := by decide +kernel
theorem dX12_frontLine_158 : decode cX12_frontLine 158 = .ok (.bipush 11, 2) := by decide +kernel
theorem dX12_frontLine_160 : decode cX12_frontLine 160 = .ok (.if_icmp .ne 30, 3) := by decide +kernel
theorem dX12_frontLine_163 : decode cX12_frontLine 163 = .ok (.aload_n 0, 1) := by decide +kernel
theorem dX12_frontLine_164 : decode cX12_frontLine 164 = .ok (.getfield 42, 3) := by decide +kernel
theorem dX12_frontLine_167 : decode cX12_frontLine 167 = .ok (.iload_n 1, 1) := by decide +kernel
theorem dX12_frontLine_168 : decode cX12_frontLine 168 = .ok (.aload_n 0, 1) := by decide +kernel
theorem dX12_frontLine_169 : decode cX12_frontLine 169 = .ok (.aload_n 0, 1) := by decide +kernel
theorem dX12_frontLine_170 : decode cX12_frontLine 170 = .ok (.getfield 42, 3) := by decide +kernel
theorem dX12_frontLine_173 : decode cX12_frontLine 173 = .ok (.iload_n 1, 1) := by decide +kernel
theorem dX12_frontLine_174 : decode cX12_frontLine 174 = .ok (.iaload, 1) := by decide +kernel
theorem dX12_frontLine_175 : decode cX12_frontLine 175 = .ok (.aload_n 0, 1) := by decide +kernel
theorem dX12_frontLine_176 : decode cX12_frontLine 176 = .ok (.getfield 33, 3) := by decide +kernel
theorem dX12_frontLine_179 : decode cX12_frontLine 179 = .ok (.iload_n 1, 1) := by decide +kernel
theorem dX12_frontLine_180 : decode cX12_frontLine 180 = .ok (.iaload, 1) := by decide +kernel
theorem dX12_frontLine_181 : decode cX12_frontLine 181 = .ok (.iconst 1, 1) := by decide +kernel
theorem dX12_frontLine_182 : decode cX12_frontLine 182 = .ok (.isub, 1) := by decide +kernel
theorem dX12_frontLine_183 : decode cX12_frontLine 183 = .ok (.invokevirtual 345, 3) := by decide +kernel
theorem dX12_frontLine_186 : decode cX12_frontLine 186 = .ok (.iastore, 1) := by decide +kernel
theorem dX12_frontLine_187 : decode cX12_frontLine 187 = .ok (.goto 8, 3) := by decide +kernel
theorem dX12_frontLine_190 : decode cX12_frontLine 190 = .ok (.aload_n 0, 1) := by decide +kernel
theorem dX12_frontLine_191 : decode cX12_frontLine 191 = .ok (.iload_n 1, 1) := by decide +kernel
theorem dX12_frontLine_192 : decode cX12_frontLine 192 = .ok (.invokevirtual 348, 3) := by decide +kernel
theorem dX12_frontLine_195 : decode cX12_frontLine 195 = .ok (.goto (-129), 3) := by decide +kernel
theorem dX12_frontLine_198 : decode cX12_frontLine 198 = .ok (.aload_n 0, 1) := by decide +kernel
theorem dX12_frontLine_199 : decode cX12_frontLine 199 = .ok (.dup, 1) := by decide +kernel
theorem dX12_frontLine_200 : decode cX12_frontLine 200 = .ok (.getfield 274, 3) := by decide +kernel
theorem dX12_frontLine_203 : decode cX12_frontLine 203 = .ok (.iconst 1, 1) := by decide +kernel
theorem dX12_frontLine_204 : decode cX12_frontLine 204 = .ok (.iadd, 1) := by decide +kernel
theorem dX12_frontLine_205 : decode cX12_frontLine 205 = .ok (.putfield 274, 3) := by decide +kernel
theorem dX12_frontLine_208 : decode cX12_frontLine 208 = .ok (.return_, 1) := by decide +kernel
theorem dX12_paneLine_0 : decode cX12_paneLine 0 = .ok (.aload_n 0, 1) := by decide +kernel
theorem dX12_paneLine_1 : decode cX12_paneLine 1 = .ok (.iconst 0, 1) := by decide +kernel
theorem dX12_paneLine_2 : decode cX12_paneLine 2 = .ok (.aload_n 0, 1) := by decide +kernel
theorem dX12_paneLine_3 : decode cX12_paneLine 3 = .ok (.getfield 33, 3) := by decide +kernel
theorem dX12_paneLine_6 : decode cX12_paneLine 6 = .ok (.iload_n 1, 1) := by decide +kernel
theorem dX12_paneLine_7 : decode cX12_paneLine 7 = .ok (.iaload, 1) := by decide +kernel
theorem dX12_paneLine_8 : decode cX12_paneLine 8 = .ok (.iconst 1, 1) := by decide +kernel
theorem dX12_paneLine_9 : decode cX12_paneLine 9 = .ok (.isub, 1) := by decide +kernel
theorem dX12_paneLine_10 : decode cX12_paneLine 10 = .ok (.invokevirtual 292, 3) := by decide +kernel
theorem dX12_paneLine_13 : decode cX12_paneLine 13 = .ok (.istore_n 2, 1) := by decide +kernel
theorem dX12_paneLine_14 : decode cX12_paneLine 14 = .ok (.aload_n 0, 1) := by decide +kernel
theorem dX12_paneLine_15 : decode cX12_paneLine 15 = .ok (.iconst 1, 1) := by decide +kernel
theorem dX12_paneLine_16 : decode cX12_paneLine 16 = .ok (.aload_n 0, 1) := by decide +kernel
theorem dX12_paneLine_17 : decode cX12_paneLine 17 = .ok (.getfield 36, 3) := by decide +kernel
theorem dX12_paneLine_20 : decode cX12_paneLine 20 = .ok (.iload_n 1, 1) := by decide +kernel
theorem dX12_paneLine_21 : decode cX12_paneLine 21 = .ok (.iaload, 1) := by decide +kernel
theorem dX12_paneLine_22 : decode cX12_paneLine 22 = .ok (.invokevirtual 260, 3) := by decide +kernel
theorem dX12_paneLine_25 : decode cX12_paneLine 25 = .ok (.ifCond .ne 4, 3) := by decide +kernel
theorem dX12_paneLine_28 : decode cX12_paneLine 28 = .ok (.return_, 1) := by decide +kernel
theorem dX12_paneLine_29 : decode cX12_paneLine 29 = .ok (.iconst 0, 1) := by decide +kernel
theorem dX12_paneLine_30 : decode cX12_paneLine 30 = .ok (.istore_n 3, 1) := by decide +kernel
theorem dX12_paneLine_31 : decode cX12_paneLine 31 = .ok (.iload_n 3, 1) := by decide +kernel
theorem dX12_paneLine_32 : decode cX12_paneLine 32 = .ok (.aload_n 0, 1) := by decide +kernel
theorem dX12_paneLine_33 : decode cX12_paneLine 33 = .ok (.getfield 45, 3) := by decide +kernel
theorem dX12_paneLine_36 : decode cX12_paneLine 36 = .ok (.iload_n 1, 1) := by decide +kernel
theorem dX12_paneLine_37 : decode cX12_paneLine 37 = .ok (.iaload, 1) := by decide +kernel
theorem dX12_paneLine_38 : decode cX12_paneLine 38 = .ok (.if_icmp .ge 47, 3) := by decide +kernel
theorem dX12_paneLine_41 : decode cX12_paneLine 41 = .ok (.aload_n 0, 1) := by decide +kernel
theorem dX12_paneLine_42 : decode cX12_paneLine 42 = .ok (.getfield 48, 3) := by decide +kernel
theorem dX12_paneLine_45 : decode cX12_paneLine 45 = .ok (.bipush 12, 2) := by decide +kernel
theorem dX12_paneLine_47 : decode cX12_paneLine 47 = .ok (.iload_n 1, 1) := by decide +kernel
theorem dX12_paneLine_48 : decode cX12_paneLine 48 = .ok (.imul, 1) := by decide +kernel
theorem dX12_paneLine_49 : decode cX12_paneLine 49 = .ok (.iload_n 3, 1) := by decide +kernel
theorem dX12_paneLine_50 : decode cX12_paneLine 50 = .ok (.iadd, 1) := by decide +kernel
theorem dX12_paneLine_51 : decode cX12_paneLine 51 = .ok (.iaload, 1) := by decide +kernel
theorem dX12_paneLine_52 : decode cX12_paneLine 52 = .ok (.iload_n 2, 1) := by decide +kernel
theorem dX12_paneLine_53 : decode cX12_paneLine 53 = .ok (.if_icmp .ne 26, 3) := by decide +kernel
theorem dX12_paneLine_56 : decode cX12_paneLine 56 = .ok (.aload_n 0, 1) := by decide +kernel
theorem dX12_paneLine_57 : decode cX12_paneLine 57 = .ok (.getfield 51, 3) := by decide +kernel
theorem dX12_paneLine_60 : decode cX12_paneLine 60 = .ok (.bipush 12, 2) := by decide +kernel
theorem dX12_paneLine_62 : decode cX12_paneLine 62 = .ok (.iload_n 1, 1) := by decide +kernel
theorem dX12_paneLine_63 : decode cX12_paneLine 63 = .ok (.imul, 1) := by decide +kernel
theorem dX12_paneLine_64 : decode cX12_paneLine 64 = .ok (.iload_n 3, 1) := by decide +kernel
theorem dX12_paneLine_65 : decode cX12_paneLine 65 = .ok (.iadd, 1) := by decide +kernel
theorem dX12_paneLine_66 : decode cX12_paneLine 66 = .ok (.iaload, 1) := by decide +kernel
theorem dX12_paneLine_67 : decode cX12_paneLine 67 = .ok (.aload_n 0, 1) := by decide +kernel
theorem dX12_paneLine_68 : decode cX12_paneLine 68 = .ok (.getfield 224, 3) := by decide +kernel
theorem dX12_paneLine_71 : decode cX12_paneLine 71 = .ok (.if_icmp .ne 8, 3) := by decide +kernel
theorem dX12_paneLine_74 : decode cX12_paneLine 74 = .ok (.aload_n 0, 1) := by decide +kernel
theorem dX12_paneLine_75 : decode cX12_paneLine 75 = .ok (.iconst 3, 1) := by decide +kernel
theorem dX12_paneLine_76 : decode cX12_paneLine 76 = .ok (.invokevirtual 257, 3) := by decide +kernel
theorem dX12_paneLine_79 : decode cX12_paneLine 79 = .ok (.iinc 3 1, 3) := by decide +kernel
theorem dX12_paneLine_82 : decode cX12_paneLine 82 = .ok (.goto (-51), 3) := by decide +kernel
theorem dX12_paneLine_85 : decode cX12_paneLine 85 = .ok (.aload_n 0, 1) := by decide +kernel
theorem dX12_paneLine_86 : decode cX12_paneLine 86 = .ok (.getfield 248, 3) := by decide +kernel
theorem dX12_paneLine_89 : decode cX12_paneLine 89 = .ok (.ifCond .eq 4, 3) := by decide +kernel
theorem dX12_paneLine_92 : decode cX12_paneLine 92 = .ok (.return_, 1) := by decide +kernel
theorem dX12_paneLine_93 : decode cX12_paneLine 93 = .ok (.aload_n 0, 1) := by decide +kernel
theorem dX12_paneLine_94 : decode cX12_paneLine 94 = .ok (.getfield 48, 3) := by decide +kernel
theorem dX12_paneLine_97 : decode cX12_paneLine 97 = .ok (.bipush 12, 2) := by decide +kernel
theorem dX12_paneLine_99 : decode cX12_paneLine 99 = .ok (.iload_n 1, 1) := by decide +kernel
theorem dX12_paneLine_100 : decode cX12_paneLine 100 = .ok (.imul, 1) := by decide +kernel
theorem dX12_paneLine_101 : decode cX12_paneLine 101 = .ok (.aload_n 0, 1) := by decide +kernel
theorem dX12_paneLine_102 : decode cX12_paneLine 102 = .ok (.getfield 45, 3) := by decide +kernel
theorem dX12_paneLine_105 : decode cX12_paneLine 105 = .ok (.iload_n 1, 1) := by decide +kernel
theorem dX12_paneLine_106 : decode cX12_paneLine 106 = .ok (.iaload, 1) := by decide +kernel
theorem dX12_paneLine_107 : decode cX12_paneLine 107 = .ok (.iadd, 1) := by decide +kernel
theorem dX12_paneLine_108 : decode cX12_paneLine 108 = .ok (.iload_n 2, 1) := by decide +kernel
theorem dX12_paneLine_109 : decode cX12_paneLine 109 = .ok (.iastore, 1) := by decide +kernel
theorem dX12_paneLine_110 : decode cX12_paneLine 110 = .ok (.aload_n 0, 1) := by decide +kernel
theorem dX12_paneLine_111 : decode cX12_paneLine 111 = .ok (.getfield 51, 3) := by decide +kernel
theorem dX12_paneLine_114 : decode cX12_paneLine 114 = .ok (.bipush 12, 2) := by decide +kernel
theorem dX12_paneLine_116 : decode cX12_paneLine 116 = .ok (.iload_n 1, 1) := by decide +kernel
theorem dX12_paneLine_117 : decode cX12_paneLine 117 = .ok (.imul, 1) := by decide +kernel
theorem dX12_paneLine_118 : decode cX12_paneLine 118 = .ok (.aload_n 0, 1) := by decide +kernel
theorem dX12_paneLine_119 : decode cX12_paneLine 119 = .ok (.getfield 45, 3) := by decide +kernel
theorem dX12_paneLine_122 : decode cX12_paneLine 122 = .ok (.iload_n 1, 1) := by decide +kernel
theorem dX12_paneLine_123 : decode cX12_paneLine 123 = .ok (.iaload, 1) := by decide +kernel
theorem dX12_paneLine_124 : decode cX12_paneLine 124 = .ok (.iadd, 1) := by decide +kernel
theorem dX12_paneLine_125 : decode cX12_paneLine 125 = .ok (.aload_n 0, 1) := by decide +kernel
theorem dX12_paneLine_126 : decode cX12_paneLine 126 = .ok (.getfield 224, 3) := by decide +kernel
theorem dX12_paneLine_129 : decode cX12_paneLine 129 = .ok (.iastore, 1) := by decide +kernel
theorem dX12_paneLine_130 : decode cX12_paneLine 130 = .ok (.aload_n 0, 1) := by decide +kernel
theorem dX12_paneLine_131 : decode cX12_paneLine 131 = .ok (.getfield 45, 3) := by decide +kernel
theorem dX12_paneLine_134 : decode cX12_paneLine 134 = .ok (.iload_n 1, 1) := by decide +kernel
theorem dX12_paneLine_135 : decode cX12_paneLine 135 = .ok (.dup2, 1) := by decide +kernel
theorem dX12_paneLine_136 : decode cX12_paneLine 136 = .ok (.iaload, 1) := by decide +kernel
theorem dX12_paneLine_137 : decode cX12_paneLine 137 = .ok (.iconst 1, 1) := by decide +kernel
theorem dX12_paneLine_138 : decode cX12_paneLine 138 = .ok (.iadd, 1) := by decide +kernel
theorem dX12_paneLine_139 : decode cX12_paneLine 139 = .ok (.iastore, 1) := by decide +kernel
theorem dX12_paneLine_140 : decode cX12_paneLine 140 = .ok (.aload_n 0, 1) := by decide +kernel
theorem dX12_paneLine_141 : decode cX12_paneLine 141 = .ok (.invokevirtual 254, 3) := by decide +kernel
theorem dX12_paneLine_144 : decode cX12_paneLine 144 = .ok (.return_, 1) := by decide +kernel
theorem dX12_houseLine_0 : decode cX12_houseLine 0 = .ok (.aload_n 0, 1) := by decide +kernel
theorem dX12_houseLine_1 : decode cX12_houseLine 1 = .ok (.getfield 66, 3) := by decide +kernel
theorem dX12_houseLine_4 : decode cX12_houseLine 4 = .ok (.iload_n 1, 1) := by decide +kernel
theorem dX12_houseLine_5 : decode cX12_houseLine 5 = .ok (.aload_n 0, 1) := by decide +kernel
theorem dX12_houseLine_6 : decode cX12_houseLine 6 = .ok (.aload_n 0, 1) := by decide +kernel
theorem dX12_houseLine_7 : decode cX12_houseLine 7 = .ok (.getfield 66, 3) := by decide +kernel
theorem dX12_houseLine_10 : decode cX12_houseLine 10 = .ok (.bipush 10, 2) := by decide +kernel
theorem dX12_houseLine_12 : decode cX12_houseLine 12 = .ok (.aload_n 0, 1) := by decide +kernel
theorem dX12_houseLine_13 : decode cX12_houseLine 13 = .ok (.getfield 280, 3) := by decide +kernel
theorem dX12_houseLine_16 : decode cX12_houseLine 16 = .ok (.invokevirtual 299, 3) := by decide +kernel
theorem dX12_houseLine_19 : decode cX12_houseLine 19 = .ok (.iastore, 1) := by decide +kernel
theorem dX12_houseLine_20 : decode cX12_houseLine 20 = .ok (.aload_n 0, 1) := by decide +kernel
theorem dX12_houseLine_21 : decode cX12_houseLine 21 = .ok (.getfield 69, 3) := by decide +kernel
theorem dX12_houseLine_24 : decode cX12_houseLine 24 = .ok (.iload_n 1, 1) := by decide +kernel
theorem dX12_houseLine_25 : decode cX12_houseLine 25 = .ok (.aload_n 0, 1) := by decide +kernel
theorem dX12_houseLine_26 : decode cX12_houseLine 26 = .ok (.aload_n 0, 1) := by decide +kernel
theorem dX12_houseLine_27 : decode cX12_houseLine 27 = .ok (.getfield 30, 3) := by decide +kernel
theorem dX12_houseLine_30 : decode cX12_houseLine 30 = .ok (.iconst 5, 1) := by decide +kernel
theorem dX12_houseLine_31 : decode cX12_houseLine 31 = .ok (.aload_n 0, 1) := by decide +kernel
theorem dX12_houseLine_32 : decode cX12_houseLine 32 = .ok (.getfield 274, 3) := by decide +kernel
theorem dX12_houseLine_35 : decode cX12_houseLine 35 = .ok (.invokevirtual 351, 3) := by decide +kernel
theorem dX12_houseLine_38 : decode cX12_houseLine 38 = .ok (.iastore, 1) := by decide +kernel
theorem dX12_houseLine_39 : decode cX12_houseLine 39 = .ok (.aload_n 0, 1) := by decide +kernel
theorem dX12_houseLine_40 : decode cX12_houseLine 40 = .ok (.getfield 72, 3) := by decide +kernel
theorem dX12_houseLine_43 : decode cX12_houseLine 43 = .ok (.iload_n 1, 1) := by decide +kernel
theorem dX12_houseLine_44 : decode cX12_houseLine 44 = .ok (.aload_n 0, 1) := by decide +kernel
theorem dX12_houseLine_45 : decode cX12_houseLine 45 = .ok (.aload_n 0, 1) := by decide +kernel
theorem dX12_houseLine_46 : decode cX12_houseLine 46 = .ok (.getfield 54, 3) := by decide +kernel
theorem dX12_houseLine_49 : decode cX12_houseLine 49 = .ok (.iconst 3, 1) := by decide +kernel
theorem dX12_houseLine_50 : decode cX12_houseLine 50 = .ok (.aload_n 0, 1) := by decide +kernel
theorem dX12_houseLine_51 : decode cX12_houseLine 51 = .ok (.getfield 277, 3) := by decide +kernel
theorem dX12_houseLine_54 : decode cX12_houseLine 54 = .ok (.invokevirtual 351, 3) := by decide +kernel
theorem dX12_houseLine_57 : decode cX12_houseLine 57 = .ok (.iastore, 1) := by decide +kernel
theorem dX12_houseLine_58 : decode cX12_houseLine 58 = .ok (.aload_n 0, 1) := by decide +kernel
theorem dX12_houseLine_59 : decode cX12_houseLine 59 = .ok (.getfield 75, 3) := by decide +kernel
theorem dX12_houseLine_62 : decode cX12_houseLine 62 = .ok (.iload_n 1, 1) := by decide +kernel
theorem dX12_houseLine_63 : decode cX12_houseLine 63 = .ok (.aload_n 0, 1) := by decide +kernel
theorem dX12_houseLine_64 : decode cX12_houseLine 64 = .ok (.iconst 0, 1) := by decide +kernel
theorem dX12_houseLine_65 : decode cX12_houseLine 65 = .ok (.bipush 9, 2) := by decide +kernel
theorem dX12_houseLine_67 : decode cX12_houseLine 67 = .ok (.invokevirtual 292, 3) := by decide +kernel
theorem dX12_houseLine_70 : decode cX12_houseLine 70 = .ok (.iastore, 1) := by decide +kernel
theorem dX12_houseLine_71 : decode cX12_houseLine 71 = .ok (.aload_n 0, 1) := by decide +kernel
theorem dX12_houseLine_72 : decode cX12_houseLine 72 = .ok (.getfield 78, 3) := by decide +kernel
theorem dX12_houseLine_75 : decode cX12_houseLine 75 = .ok (.iload_n 1, 1) := by decide +kernel
theorem dX12_houseLine_76 : decode cX12_houseLine 76 = .ok (.aload_n 0, 1) := by decide +kernel
theorem dX12_houseLine_77 : decode cX12_houseLine 77 = .ok (.iconst 0, 1) := by decide +kernel
theorem dX12_houseLine_78 : decode cX12_houseLine 78 = .ok (.bipush 99, 2) := by decide +kernel
theorem dX12_houseLine_80 : decode cX12_houseLine 80 = .ok (.invokevirtual 292, 3) := by decide +kernel
theorem dX12_houseLine_83 : decode cX12_houseLine 83 = .ok (.iastore, 1) := by decide +kernel
theorem dX12_houseLine_84 : decode cX12_houseLine 84 = .ok (.aload_n 0, 1) := by decide +kernel
theorem dX12_houseLine_85 : decode cX12_houseLine 85 = .ok (.getfield 81, 3) := by decide +kernel
theorem dX12_houseLine_88 : decode cX12_houseLine 88 = .ok (.iload_n 1, 1) := by decide +kernel
theorem dX12_houseLine_89 : decode cX12_houseLine 89 = .ok (.aload_n 0, 1) := by decide +kernel
theorem dX12_houseLine_90 : decode cX12_houseLine 90 = .ok (.iconst 1, 1) := by decide +kernel
theorem dX12_houseLine_91 : decode cX12_houseLine 91 = .ok (.bipush 9, 2) := by decide +kernel
theorem dX12_houseLine_93 : decode cX12_houseLine 93 = .ok (.invokevirtual 292, 3) := by decide +kernel
theorem dX12_houseLine_96 : decode cX12_houseLine 96 = .ok (.iastore, 1) := by decide +kernel
theorem dX12_houseLine_97 : decode cX12_houseLine 97 = .ok (.aload_n 0, 1) := by decide +kernel
theorem dX12_houseLine_98 : decode cX12_houseLine 98 = .ok (.getfield 84, 3) := by decide +kernel
theorem dX12_houseLine_101 : decode cX12_houseLine 101 = .ok (.iload_n 1, 1) := by decide +kernel
theorem dX12_houseLine_102 : decode cX12_houseLine 102 = .ok (.iconst 0, 1) := by decide +kernel
theorem dX12_houseLine_103 : decode cX12_houseLine 103 = .ok (.iastore, 1) := by decide +kernel
theorem dX12_houseLine_104 : decode cX12_houseLine 104 = .ok (.aload_n 0, 1) := by decide +kernel
theorem dX12_houseLine_105 : decode cX12_houseLine 105 = .ok (.getfield 87, 3) := by decide +kernel
theorem dX12_houseLine_108 : decode cX12_houseLine 108 = .ok (.iload_n 1, 1) := by decide +kernel
theorem dX12_houseLine_109 : decode cX12_houseLine 109 = .ok (.bipush 10, 2) := by decide +kernel
theorem dX12_houseLine_111 : decode cX12_houseLine 111 = .ok (.iastore, 1) := by decide +kernel
theorem dX12_houseLine_112 : decode cX12_houseLine 112 = .ok (.aload_n 0, 1) := by decide +kernel
theorem dX12_houseLine_113 : decode cX12_houseLine 113 = .ok (.getfield 90, 3) := by decide +kernel
theorem dX12_houseLine_116 : decode cX12_houseLine 116 = .ok (.iload_n 1, 1) := by decide +kernel
theorem dX12_houseLine_117 : decode cX12_houseLine 117 = .ok (.iconst 0, 1) := by decide +kernel
theorem dX12_houseLine_118 : decode cX12_houseLine 118 = .ok (.bastore, 1) := by decide +kernel
theorem dX12_houseLine_119 : decode cX12_houseLine 119 = .ok (.aload_n 0, 1) := by decide +kernel
theorem dX12_houseLine_120 : decode cX12_houseLine 120 = .ok (.getfield 94, 3) := by decide +kernel
theorem dX12_houseLine_123 : decode cX12_houseLine 123 = .ok (.iload_n 1, 1) := by decide +kernel
theorem dX12_houseLine_124 : decode cX12_houseLine 124 = .ok (.iconst 0, 1) := by decide +kernel
theorem dX12_houseLine_125 : decode cX12_houseLine 125 = .ok (.iastore, 1) := by decide +kernel
theorem dX12_houseLine_126 : decode cX12_houseLine 126 = .ok (.aload_n 0, 1) := by decide +kernel
theorem dX12_houseLine_127 : decode cX12_houseLine 127 = .ok (.getfield 97, 3) := by decide +kernel
theorem dX12_houseLine_130 : decode cX12_houseLine 130 = .ok (.iload_n 1, 1) := by decide +kernel
theorem dX12_houseLine_131 : decode cX12_houseLine 131 = .ok (.iconst 0, 1) := by decide +kernel
theorem dX12_houseLine_132 : decode cX12_houseLine 132 = .ok (.iastore, 1) := by decide +kernel
theorem dX12_houseLine_133 : decode cX12_houseLine 133 = .ok (.iconst 0, 1) := by decide +kernel
theorem dX12_houseLine_134 : decode cX12_houseLine 134 = .ok (.istore_n 2, 1) := by decide +kernel
theorem dX12_houseLine_135 : decode cX12_houseLine 135 = .ok (.aload_n 0, 1) := by decide +kernel
theorem dX12_houseLine_136 : decode cX12_houseLine 136 = .ok (.bipush 12, 2) := by decide +kernel
theorem dX12_houseLine_138 : decode cX12_houseLine 138 = .ok (.invokevirtual 339, 3) := by decide +kernel
theorem dX12_houseLine_141 : decode cX12_houseLine 141 = .ok (.ifCond .ne 39, 3) := by decide +kernel
theorem dX12_houseLine_144 : decode cX12_houseLine 144 = .ok (.aload_n 0, 1) := by decide +kernel
theorem dX12_houseLine_145 : decode cX12_houseLine 145 = .ok (.bipush 13, 2) := by decide +kernel
theorem dX12_houseLine_147 : decode cX12_houseLine 147 = .ok (.invokevirtual 339, 3) := by decide +kernel
theorem dX12_houseLine_150 : decode cX12_houseLine 150 = .ok (.ifCond .ne 30, 3) := by decide +kernel
theorem dX12_houseLine_153 : decode cX12_houseLine 153 = .ok (.aload_n 0, 1) := by decide +kernel
theorem dX12_houseLine_154 : decode cX12_houseLine 154 = .ok (.bipush 14, 2) := by decide +kernel
theorem dX12_houseLine_156 : decode cX12_houseLine 156 = .ok (.invokevirtual 339, 3) := by decide +kernel
theorem dX12_houseLine_159 : decode cX12_houseLine 159 = .ok (.ifCond .ne 21, 3) := by decide +kernel
theorem dX12_houseLine_162 : decode cX12_houseLine 162 = .ok (.aload_n 0, 1) := by decide +kernel
theorem dX12_houseLine_163 : decode cX12_houseLine 163 = .ok (.bipush 15, 2) := by decide +kernel
theorem dX12_houseLine_165 : decode cX12_houseLine 165 = .ok (.invokevirtual 339, 3) := by decide +kernel
theorem dX12_houseLine_168 : decode cX12_houseLine 168 = .ok (.ifCond .ne 12, 3) := by decide +kernel
theorem dX12_houseLine_171 : decode cX12_houseLine 171 = .ok (.aload_n 0, 1) := by decide +kernel
theorem dX12_houseLine_172 : decode cX12_houseLine 172 = .ok (.bipush 16, 2) := by decide +kernel
theorem dX12_houseLine_174 : decode cX12_houseLine 174 = .ok (.invokevirtual 339, 3) := by decide +kernel
theorem dX12_houseLine_177 : decode cX12_houseLine 177 = .ok (.ifCond .eq 173, 3) := by decide +kernel
theorem dX12_houseLine_180 : decode cX12_houseLine 180 = .ok (.aload_n 0, 1) := by decide +kernel
theorem dX12_houseLine_181 : decode cX12_houseLine 181 = .ok (.getfield 224, 3) := by decide +kernel
theorem dX12_houseLine_184 : decode cX12_houseLine 184 = .ok (.istore_n 3, 1) := by decide +kernel
theorem dX12_houseLine_185 : decode cX12_houseLine 185 = .ok (.iload_n 3, 1) := by decide +kernel
theorem dX12_houseLine_186 : decode cX12_houseLine 186 = .ok (.bipush 12, 2) := by decide +kernel
theorem dX12_houseLine_188 : decode cX12_houseLine 188 = .ok (.if_icmp .eq 9, 3) := by decide +kernel
theorem dX12_houseLine_191 : decode cX12_houseLine 191 = .ok (.iload_n 3, 1) := by decide +kernel
theorem dX12_houseLine_192 : decode cX12_houseLine 192 = .ok (.bipush 16, 2) := by decide +kernel
theorem dX12_houseLine_194 : decode cX12_houseLine 194 = .ok (.if_icmp .ne 7, 3) := by decide +kernel
theorem dX12_houseLine_197 : decode cX12_houseLine 197 = .ok (.iconst 1, 1) := by decide +kernel
theorem dX12_houseLine_198 : decode cX12_houseLine 198 = .ok (.goto 4, 3) := by decide +kernel
theorem dX12_houseLine_201 : decode cX12_houseLine 201 = .ok (.iconst 0, 1) := by decide +kernel
theorem dX12_houseLine_202 : decode cX12_houseLine 202 = .ok (.istore 4, 2) := by decide +kernel
theorem dX12_houseLine_204 : decode cX12_houseLine 204 = .ok (.iload 4, 2) := by decide +kernel
theorem dX12_houseLine_206 : decode cX12_houseLine 206 = .ok (.ifCond .ne 17, 3) := by decide +kernel
theorem dX12_houseLine_209 : decode cX12_houseLine 209 = .ok (.iload_n 2, 1) := by decide +kernel
theorem dX12_houseLine_210 : decode cX12_houseLine 210 = .ok (.iload_n 3, 1) := by decide +kernel
theorem dX12_houseLine_211 : decode cX12_houseLine 211 = .ok (.ishr, 1) := by decide +kernel
theorem dX12_houseLine_212 : decode cX12_houseLine 212 = .ok (.iconst 1, 1) := by decide +kernel
theorem dX12_houseLine_213 : decode cX12_houseLine 213 = .ok (.iand, 1) := by decide +kernel
theorem dX12_houseLine_214 : decode cX12_houseLine 214 = .ok (.iconst 1, 1) := by decide +kernel
theorem dX12_houseLine_215 : decode cX12_houseLine 215 = .ok (.if_icmp .ne 8, 3) := by decide +kernel
theorem dX12_houseLine_218 : decode cX12_houseLine 218 = .ok (.aload_n 0, 1) := by decide +kernel
theorem dX12_houseLine_219 : decode cX12_houseLine 219 = .ok (.iconst 3, 1) := by decide +kernel
theorem dX12_houseLine_220 : decode cX12_houseLine 220 = .ok (.invokevirtual 257, 3) := by decide +kernel
theorem dX12_houseLine_223 : decode cX12_houseLine 223 = .ok (.iload_n 2, 1) := by decide +kernel
theorem dX12_houseLine_224 : decode cX12_houseLine 224 = .ok (.iconst 1, 1) := by decide +kernel
theorem dX12_houseLine_225 : decode cX12_houseLine 225 = .ok (.iload_n 3, 1) := by decide +kernel
theorem dX12_houseLine_226 : decode cX12_houseLine 226 = .ok (.ishl, 1) := by decide +kernel
theorem dX12_houseLine_227 : decode cX12_houseLine 227 = .ok (.ior, 1) := by decide +kernel
theorem dX12_houseLine_228 : decode cX12_houseLine 228 = .ok (.istore_n 2, 1) := by decide +kernel
theorem dX12_houseLine_229 : decode cX12_houseLine 229 = .ok (.aload_n 0, 1) := by decide +kernel
theorem dX12_houseLine_230 : decode cX12_houseLine 230 = .ok (.invokevirtual 342, 3) := by decide +kernel
theorem dX12_houseLine_233 : decode cX12_houseLine 233 = .ok (.iload_n 3, 1) := by decide +kernel
theorem dX12_houseLine_234 : decode cX12_houseLine 234 = .ok (.tableswitch 95 12 15 #[30, 51, 68, 78], 30) := by decide +kernel
theorem dX12_houseLine_264 : decode cX12_houseLine 264 = .ok (.aload_n 0, 1) := by decide +kernel
theorem dX12_houseLine_265 : decode cX12_houseLine 265 = .ok (.getfield 84, 3) := by decide +kernel
theorem dX12_houseLine_268 : decode cX12_houseLine 268 = .ok (.iload_n 1, 1) := by decide +kernel
theorem dX12_houseLine_269 : decode cX12_houseLine 269 = .ok (.aload_n 0, 1) := by decide +kernel
theorem dX12_houseLine_270 : decode cX12_houseLine 270 = .ok (.aload_n 0, 1) := by decide +kernel
theorem dX12_houseLine_271 : decode cX12_houseLine 271 = .ok (.getfield 84, 3) := by decide +kernel
theorem dX12_houseLine_274 : decode cX12_houseLine 274 = .ok (.iload_n 1, 1) := by decide +kernel
theorem dX12_houseLine_275 : decode cX12_houseLine 275 = .ok (.iaload, 1) := by decide +kernel
theorem dX12_houseLine_276 : decode cX12_houseLine 276 = .ok (.bipush 6, 2) := by decide +kernel
theorem dX12_houseLine_278 : decode cX12_houseLine 278 = .ok (.invokevirtual 345, 3) := by decide +kernel
theorem dX12_houseLine_281 : decode cX12_houseLine 281 = .ok (.iastore, 1) := by decide +kernel
theorem dX12_houseLine_282 : decode cX12_houseLine 282 = .ok (.goto 65, 3) := by decide +kernel
theorem dX12_houseLine_285 : decode cX12_houseLine 285 = .ok (.aload_n 0, 1) := by decide +kernel
theorem dX12_houseLine_286 : decode cX12_houseLine 286 = .ok (.getfield 87, 3) := by decide +kernel
theorem dX12_houseLine_289 : decode cX12_houseLine 289 = .ok (.iload_n 1, 1) := by decide +kernel
theorem dX12_houseLine_290 : decode cX12_houseLine 290 = .ok (.aload_n 0, 1) := by decide +kernel
theorem dX12_houseLine_291 : decode cX12_houseLine 291 = .ok (.iconst 0, 1) := by decide +kernel
theorem dX12_houseLine_292 : decode cX12_houseLine 292 = .ok (.sipush 999, 3) := by decide +kernel
theorem dX12_houseLine_295 : decode cX12_houseLine 295 = .ok (.invokevirtual 292, 3) := by decide +kernel
theorem dX12_houseLine_298 : decode cX12_houseLine 298 = .ok (.iastore, 1) := by decide +kernel
theorem dX12_houseLine_299 : decode cX12_houseLine 299 = .ok (.goto 48, 3) := by decide +kernel
theorem dX12_houseLine_302 : decode cX12_houseLine 302 = .ok (.aload_n 0, 1) := by decide +kernel
theorem dX12_houseLine_303 : decode cX12_houseLine 303 = .ok (.getfield 90, 3) := by decide +kernel
theorem dX12_houseLine_306 : decode cX12_houseLine 306 = .ok (.iload_n 1, 1) := by decide +kernel
theorem dX12_houseLine_307 : decode cX12_houseLine 307 = .ok (.iconst 1, 1) := by decide +kernel
theorem dX12_houseLine_308 : decode cX12_houseLine 308 = .ok (.bastore, 1) := by decide +kernel
theorem dX12_houseLine_309 : decode cX12_houseLine 309 = .ok (.goto 38, 3) := by decide +kernel
theorem dX12_houseLine_312 : decode cX12_houseLine 312 = .ok (.aload_n 0, 1) := by decide +kernel
theorem dX12_houseLine_313 : decode cX12_houseLine 313 = .ok (.getfield 94, 3) := by decide +kernel
theorem dX12_houseLine_316 : decode cX12_houseLine 316 = .ok (.iload_n 1, 1) := by decide +kernel
theorem dX12_houseLine_317 : decode cX12_houseLine 317 = .ok (.aload_n 0, 1) := by decide +kernel
theorem dX12_houseLine_318 : decode cX12_houseLine 318 = .ok (.iconst 0, 1) := by decide +kernel
theorem dX12_houseLine_319 : decode cX12_houseLine 319 = .ok (.sipush 199, 3) := by decide +kernel
theorem dX12_houseLine_322 : decode cX12_houseLine 322 = .ok (.invokevirtual 292, 3) := by decide +kernel
theorem dX12_houseLine_325 : decode cX12_houseLine 325 = .ok (.iastore, 1) := by decide +kernel
theorem dX12_houseLine_326 : decode cX12_houseLine 326 = .ok (.goto 21, 3) := by decide +kernel
theorem dX12_houseLine_329 : decode cX12_houseLine 329 = .ok (.aload_n 0, 1) := by decide +kernel
theorem dX12_houseLine_330 : decode cX12_houseLine 330 = .ok (.getfield 97, 3) := by decide +kernel
theorem dX12_houseLine_333 : decode cX12_houseLine 333 = .ok (.iload_n 1, 1) := by decide +kernel
theorem dX12_houseLine_334 : decode cX12_houseLine 334 = .ok (.aload_n 0, 1) := by decide +kernel
theorem dX12_houseLine_335 : decode cX12_houseLine 335 = .ok (.aload_n 0, 1) := by decide +kernel
theorem dX12_houseLine_336 : decode cX12_houseLine 336 = .ok (.getfield 97, 3) := by decide +kernel
theorem dX12_houseLine_339 : decode cX12_houseLine 339 = .ok (.iload_n 1, 1) := by decide +kernel
theorem dX12_houseLine_340 : decode cX12_houseLine 340 = .ok (.iaload, 1) := by decide +kernel
theorem dX12_houseLine_341 : decode cX12_houseLine 341 = .ok (.bipush 6, 2) := by decide +kernel
theorem dX12_houseLine_343 : decode cX12_houseLine 343 = .ok (.invokevirtual 345, 3) := by decide +kernel
theorem dX12_houseLine_346 : decode cX12_houseLine 346 = .ok (.iastore, 1) := by decide +kernel
theorem dX12_houseLine_347 : decode cX12_houseLine 347 = .ok (.goto (-212), 3) := by decide +kernel
theorem dX12_houseLine_350 : decode cX12_houseLine 350 = .ok (.aload_n 0, 1) := by decide +kernel
theorem dX12_houseLine_351 : decode cX12_houseLine 351 = .ok (.dup, 1) := by decide +kernel
theorem dX12_houseLine_352 : decode cX12_houseLine 352 = .ok (.getfield 280, 3) := by decide +kernel
theorem dX12_houseLine_355 : decode cX12_houseLine 355 = .ok (.iconst 1, 1) := by decide +kernel
theorem dX12_houseLine_356 : decode cX12_houseLine 356 = .ok (.iadd, 1) := by decide +kernel
theorem dX12_houseLine_357 : decode cX12_houseLine 357 = .ok (.putfield 280, 3) := by decide +kernel
theorem dX12_houseLine_360 : decode cX12_houseLine 360 = .ok (.return_, 1) := by decide +kernel
theorem dX12_wetLine_0 : decode cX12_wetLine 0 = .ok (.aload_n 0, 1) := by decide +kernel
theorem dX12_wetLine_1 : decode cX12_wetLine 1 = .ok (.iconst 0, 1) := by decide +kernel
theorem dX12_wetLine_2 : decode cX12_wetLine 2 = .ok (.sipush 199, 3) := by decide +kernel
theorem dX12_wetLine_5 : decode cX12_wetLine 5 = .ok (.invokevirtual 292, 3) := by decide +kernel
theorem dX12_wetLine_8 : decode cX12_wetLine 8 = .ok (.istore_n 1, 1) := by decide +kernel
theorem dX12_wetLine_9 : decode cX12_wetLine 9 = .ok (.iload_n 1, 1) := by decide +kernel
theorem dX12_wetLine_10 : decode cX12_wetLine 10 = .ok (.istore_n 2, 1) := by decide +kernel
theorem dX12_wetLine_11 : decode cX12_wetLine 11 = .ok (.aload_n 0, 1) := by decide +kernel
theorem dX12_wetLine_12 : decode cX12_wetLine 12 = .ok (.bipush 17, 2) := by decide +kernel
theorem dX12_wetLine_14 : decode cX12_wetLine 14 = .ok (.invokevirtual 339, 3) := by decide +kernel
theorem dX12_wetLine_17 : decode cX12_wetLine 17 = .ok (.ifCond .eq 16, 3) := by decide +kernel
theorem dX12_wetLine_20 : decode cX12_wetLine 20 = .ok (.aload_n 0, 1) := by decide +kernel
theorem dX12_wetLine_21 : decode cX12_wetLine 21 = .ok (.invokevirtual 254, 3) := by decide +kernel
theorem dX12_wetLine_24 : decode cX12_wetLine 24 = .ok (.aload_n 0, 1) := by decide +kernel
theorem dX12_wetLine_25 : decode cX12_wetLine 25 = .ok (.iload_n 1, 1) := by decide +kernel
theorem dX12_wetLine_26 : decode cX12_wetLine 26 = .ok (.sipush 199, 3) := by decide +kernel
theorem dX12_wetLine_29 : decode cX12_wetLine 29 = .ok (.invokevirtual 292, 3) := by decide +kernel
theorem dX12_wetLine_32 : decode cX12_wetLine 32 = .ok (.istore_n 2, 1) := by decide +kernel
theorem dX12_wetLine_33 : decode cX12_wetLine 33 = .ok (.iload_n 1, 1) := by decide +kernel
theorem dX12_wetLine_34 : decode cX12_wetLine 34 = .ok (.istore_n 3, 1) := by decide +kernel
theorem dX12_wetLine_35 : decode cX12_wetLine 35 = .ok (.iload_n 3, 1) := by decide +kernel
theorem dX12_wetLine_36 : decode cX12_wetLine 36 = .ok (.iload_n 2, 1) := by decide +kernel
theorem dX12_wetLine_37 : decode cX12_wetLine 37 = .ok (.if_icmp .gt 27, 3) := by decide +kernel
theorem dX12_wetLine_40 : decode cX12_wetLine 40 = .ok (.aload_n 0, 1) := by decide +kernel
theorem dX12_wetLine_41 : decode cX12_wetLine 41 = .ok (.getfield 248, 3) := by decide +kernel
theorem dX12_wetLine_44 : decode cX12_wetLine 44 = .ok (.ifCond .ne 20, 3) := by decide +kernel
theorem dX12_wetLine_47 : decode cX12_wetLine 47 = .ok (.aload_n 0, 1) := by decide +kernel
theorem dX12_wetLine_48 : decode cX12_wetLine 48 = .ok (.getfield 100, 3) := by decide +kernel
theorem dX12_wetLine_51 : decode cX12_wetLine 51 = .ok (.sipush 200, 3) := by decide +kernel
theorem dX12_wetLine_54 : decode cX12_wetLine 54 = .ok (.iload_n 3, 1) := by decide +kernel
theorem dX12_wetLine_55 : decode cX12_wetLine 55 = .ok (.iadd, 1) := by decide +kernel
theorem dX12_wetLine_56 : decode cX12_wetLine 56 = .ok (.iconst 1, 1) := by decide +kernel
theorem dX12_wetLine_57 : decode cX12_wetLine 57 = .ok (.bastore, 1) := by decide +kernel
theorem dX12_wetLine_58 : decode cX12_wetLine 58 = .ok (.iinc 3 1, 3) := by decide +kernel
theorem dX12_wetLine_61 : decode cX12_wetLine 61 = .ok (.goto (-26), 3) := by decide +kernel
theorem dX12_wetLine_64 : decode cX12_wetLine 64 = .ok (.return_, 1) := by decide +kernel
theorem dX12_puts_0 : decode cX12_puts 0 = .ok (.aload_n 0, 1) := by decide +kernel
theorem dX12_puts_1 : decode cX12_puts 1 = .ok (.getfield 248, 3) := by decide +kernel
theorem dX12_puts_4 : decode cX12_puts 4 = .ok (.ifCond .eq 4, 3) := by decide +kernel
theorem dX12_puts_7 : decode cX12_puts 7 = .ok (.return_, 1) := by decide +kernel
theorem dX12_puts_8 : decode cX12_puts 8 = .ok (.aload_n 0, 1) := by decide +kernel
theorem dX12_puts_9 : decode cX12_puts 9 = .ok (.getfield 103, 3) := by decide +kernel
theorem dX12_puts_12 : decode cX12_puts 12 = .ok (.bipush 64, 2) := by decide +kernel
theorem dX12_puts_14 : decode cX12_puts 14 = .ok (.aload_n 0, 1) := by decide +kernel
theorem dX12_puts_15 : decode cX12_puts 15 = .ok (.getfield 309, 3) := by decide +kernel
theorem dX12_puts_18 : decode cX12_puts 18 = .ok (.iadd, 1) := by decide +kernel
theorem dX12_puts_19 : decode cX12_puts 19 = .ok (.iload_n 1, 1) := by decide +kernel
theorem dX12_puts_20 : decode cX12_puts 20 = .ok (.iastore, 1) := by decide +kernel
theorem dX12_puts_21 : decode cX12_puts 21 = .ok (.aload_n 0, 1) := by decide +kernel
theorem dX12_puts_22 : decode cX12_puts 22 = .ok (.getfield 106, 3) := by decide +kernel
theorem dX12_puts_25 : decode cX12_puts 25 = .ok (.bipush 64, 2) := by decide +kernel
theorem dX12_puts_27 : decode cX12_puts 27 = .ok (.aload_n 0, 1) := by decide +kernel
theorem dX12_puts_28 : decode cX12_puts 28 = .ok (.getfield 309, 3) := by decide +kernel
theorem dX12_puts_31 : decode cX12_puts 31 = .ok (.iadd, 1) := by decide +kernel
theorem dX12_puts_32 : decode cX12_puts 32 = .ok (.iload_n 2, 1) := by decide +kernel
theorem dX12_puts_33 : decode cX12_puts 33 = .ok (.iastore, 1) := by decide +kernel
theorem dX12_puts_34 : decode cX12_puts 34 = .ok (.aload_n 0, 1) := by decide +kernel
theorem dX12_puts_35 : decode cX12_puts 35 = .ok (.dup, 1) := by decide +kernel
theorem dX12_puts_36 : decode cX12_puts 36 = .ok (.getfield 309, 3) := by decide +kernel
theorem dX12_puts_39 : decode cX12_puts 39 = .ok (.iconst 1, 1) := by decide +kernel
theorem dX12_puts_40 : decode cX12_puts 40 = .ok (.iadd, 1) := by decide +kernel
theorem dX12_puts_41 : decode cX12_puts 41 = .ok (.putfield 309, 3) := by decide +kernel
theorem dX12_puts_44 : decode cX12_puts 44 = .ok (.return_, 1) := by decide +kernel
theorem dX12_knot_0 : decode cX12_knot 0 = .ok (.aload_n 0, 1) := by decide +kernel
theorem dX12_knot_1 : decode cX12_knot 1 = .ok (.getfield 248, 3) := by decide +kernel
theorem dX12_knot_4 : decode cX12_knot 4 = .ok (.ifCond .eq 4, 3) := by decide +kernel
theorem dX12_knot_7 : decode cX12_knot 7 = .ok (.return_, 1) := by decide +kernel
theorem dX12_knot_8 : decode cX12_knot 8 = .ok (.aload_n 0, 1) := by decide +kernel
theorem dX12_knot_9 : decode cX12_knot 9 = .ok (.getfield 354, 3) := by decide +kernel
theorem dX12_knot_12 : decode cX12_knot 12 = .ok (.bipush 64, 2) := by decide +kernel
theorem dX12_knot_14 : decode cX12_knot 14 = .ok (.if_icmp .ne 11, 3) := by decide +kernel
theorem dX12_knot_17 : decode cX12_knot 17 = .ok (.aload_n 0, 1) := by decide +kernel
theorem dX12_knot_18 : decode cX12_knot 18 = .ok (.iconst 2, 1) := by decide +kernel
theorem dX12_knot_19 : decode cX12_knot 19 = .ok (.invokevirtual 257, 3) := by decide +kernel
theorem dX12_knot_22 : decode cX12_knot 22 = .ok (.goto 13, 3) := by decide +kernel
theorem dX12_knot_25 : decode cX12_knot 25 = .ok (.aload_n 0, 1) := by decide +kernel
theorem dX12_knot_26 : decode cX12_knot 26 = .ok (.dup, 1) := by decide +kernel
theorem dX12_knot_27 : decode cX12_knot 27 = .ok (.getfield 354, 3) := by decide +kernel
theorem dX12_knot_30 : decode cX12_knot 30 = .ok (.iconst 1, 1) := by decide +kernel
theorem dX12_knot_31 : decode cX12_knot 31 = .ok (.iadd, 1) := by decide +kernel
theorem dX12_knot_32 : decode cX12_knot 32 = .ok (.putfield 354, 3) := by decide +kernel
theorem dX12_knot_35 : decode cX12_knot 35 = .ok (.return_, 1) := by decide +kernel
theorem dX12_expression_0 : decode cX12_expression 0 = .ok (.aload_n 0, 1) := by decide +kernel
theorem dX12_expression_1 : decode cX12_expression 1 = .ok (.invokevirtual 357, 3) := by decide +kernel
theorem dX12_expression_4 : decode cX12_expression 4 = .ok (.aload_n 0, 1) := by decide +kernel
theorem dX12_expression_5 : decode cX12_expression 5 = .ok (.bipush 18, 2) := by decide +kernel
theorem dX12_expression_7 : decode cX12_expression 7 = .ok (.invokevirtual 339, 3) := by decide +kernel
theorem dX12_expression_10 : decode cX12_expression 10 = .ok (.ifCond .eq 26, 3) := by decide +kernel
theorem dX12_expression_13 : decode cX12_expression 13 = .ok (.aload_n 0, 1) := by decide +kernel
theorem dX12_expression_14 : decode cX12_expression 14 = .ok (.invokevirtual 360, 3) := by decide +kernel
theorem dX12_expression_17 : decode cX12_expression 17 = .ok (.aload_n 0, 1) := by decide +kernel
theorem dX12_expression_18 : decode cX12_expression 18 = .ok (.invokevirtual 342, 3) := by decide +kernel
theorem dX12_expression_21 : decode cX12_expression 21 = .ok (.aload_n 0, 1) := by decide +kernel
theorem dX12_expression_22 : decode cX12_expression 22 = .ok (.invokevirtual 357, 3) := by decide +kernel
theorem dX12_expression_25 : decode cX12_expression 25 = .ok (.aload_n 0, 1) := by decide +kernel
theorem dX12_expression_26 : decode cX12_expression 26 = .ok (.iconst 2, 1) := by decide +kernel
theorem dX12_expression_27 : decode cX12_expression 27 = .ok (.sipush 262, 3) := by decide +kernel
theorem dX12_expression_30 : decode cX12_expression 30 = .ok (.invokevirtual 363, 3) := by decide +kernel
theorem dX12_expression_33 : decode cX12_expression 33 = .ok (.goto (-29), 3) := by decide +kernel
theorem dX12_expression_36 : decode cX12_expression 36 = .ok (.return_, 1) := by decide +kernel
theorem dX12_conjunction_0 : decode cX12_conjunction 0 = .ok (.aload_n 0, 1) := by decide +kernel
theorem dX12_conjunction_1 : decode cX12_conjunction 1 = .ok (.invokevirtual 367, 3) := by decide +kernel
theorem dX12_conjunction_4 : decode cX12_conjunction 4 = .ok (.aload_n 0, 1) := by decide +kernel
theorem dX12_conjunction_5 : decode cX12_conjunction 5 = .ok (.bipush 19, 2) := by decide +kernel
theorem dX12_conjunction_7 : decode cX12_conjunction 7 = .ok (.invokevirtual 339, 3) := by decide +kernel
theorem dX12_conjunction_10 : decode cX12_conjunction 10 = .ok (.ifCond .eq 26, 3) := by decide +kernel
theorem dX12_conjunction_13 : decode cX12_conjunction 13 = .ok (.aload_n 0, 1) := by decide +kernel
theorem dX12_conjunction_14 : decode cX12_conjunction 14 = .ok (.invokevirtual 360, 3) := by decide +kernel
theorem dX12_conjunction_17 : decode cX12_conjunction 17 = .ok (.aload_n 0, 1) := by decide +kernel
theorem dX12_conjunction_18 : decode cX12_conjunction 18 = .ok (.invokevirtual 342, 3) := by decide +kernel
theorem dX12_conjunction_21 : decode cX12_conjunction 21 = .ok (.aload_n 0, 1) := by decide +kernel
theorem dX12_conjunction_22 : decode cX12_conjunction 22 = .ok (.invokevirtual 367, 3) := by decide +kernel
theorem dX12_conjunction_25 : decode cX12_conjunction 25 = .ok (.aload_n 0, 1) := by decide +kernel
theorem dX12_conjunction_26 : decode cX12_conjunction 26 = .ok (.iconst 2, 1) := by decide +kernel
theorem dX12_conjunction_27 : decode cX12_conjunction 27 = .ok (.sipush 261, 3) := by decide +kernel
theorem dX12_conjunction_30 : decode cX12_conjunction 30 = .ok (.invokevirtual 363, 3) := by decide +kernel
theorem dX12_conjunction_33 : decode cX12_conjunction 33 = .ok (.goto (-29), 3) := by decide +kernel
theorem dX12_conjunction_36 : decode cX12_conjunction 36 = .ok (.return_, 1) := by decide +kernel
theorem dX12_negation_0 : decode cX12_negation 0 = .ok (.aload_n 0, 1) := by decide +kernel
theorem dX12_negation_1 : decode cX12_negation 1 = .ok (.bipush 12, 2) := by decide +kernel
theorem dX12_negation_3 : decode cX12_negation 3 = .ok (.invokevirtual 339, 3) := by decide +kernel
theorem dX12_negation_6 : decode cX12_negation 6 = .ok (.ifCond .eq 24, 3) := by decide +kernel
theorem dX12_negation_9 : decode cX12_negation 9 = .ok (.aload_n 0, 1) := by decide +kernel
theorem dX12_negation_10 : decode cX12_negation 10 = .ok (.invokevirtual 360, 3) := by decide +kernel
theorem dX12_negation_13 : decode cX12_negation 13 = .ok (.aload_n 0, 1) := by decide +kernel
theorem dX12_negation_14 : decode cX12_negation 14 = .ok (.invokevirtual 342, 3) := by decide +kernel
theorem dX12_negation_17 : decode cX12_negation 17 = .ok (.aload_n 0, 1) := by decide +kernel
theorem dX12_negation_18 : decode cX12_negation 18 = .ok (.invokevirtual 367, 3) := by decide +kernel
theorem dX12_negation_21 : decode cX12_negation 21 = .ok (.aload_n 0, 1) := by decide +kernel
theorem dX12_negation_22 : decode cX12_negation 22 = .ok (.iconst 2, 1) := by decide +kernel
theorem dX12_negation_23 : decode cX12_negation 23 = .ok (.sipush 260, 3) := by decide +kernel
theorem dX12_negation_26 : decode cX12_negation 26 = .ok (.invokevirtual 363, 3) := by decide +kernel
theorem dX12_negation_29 : decode cX12_negation 29 = .ok (.return_, 1) := by decide +kernel
theorem dX12_negation_30 : decode cX12_negation 30 = .ok (.aload_n 0, 1) := by decide +kernel
theorem dX12_negation_31 : decode cX12_negation 31 = .ok (.invokevirtual 370, 3) := by decide +kernel
theorem dX12_negation_34 : decode cX12_negation 34 = .ok (.aload_n 0, 1) := by decide +kernel
theorem dX12_negation_35 : decode cX12_negation 35 = .ok (.getfield 248, 3) := by decide +kernel
theorem dX12_negation_38 : decode cX12_negation 38 = .ok (.ifCond .ne 48, 3) := by decide +kernel
theorem dX12_negation_41 : decode cX12_negation 41 = .ok (.aload_n 0, 1) := by decide +kernel
theorem dX12_negation_42 : decode cX12_negation 42 = .ok (.getfield 214, 3) := by decide +kernel
theorem dX12_negation_45 : decode cX12_negation 45 = .ok (.iconst 3, 1) := by decide +kernel
theorem dX12_negation_46 : decode cX12_negation 46 = .ok (.if_icmp .ne 40, 3) := by decide +kernel
theorem dX12_negation_49 : decode cX12_negation 49 = .ok (.aload_n 0, 1) := by decide +kernel
theorem dX12_negation_50 : decode cX12_negation 50 = .ok (.getfield 224, 3) := by decide +kernel
theorem dX12_negation_53 : decode cX12_negation 53 = .ok (.bipush 60, 2) := by decide +kernel
theorem dX12_negation_55 : decode cX12_negation 55 = .ok (.if_icmp .eq 32, 3) := by decide +kernel
theorem dX12_negation_58 : decode cX12_negation 58 = .ok (.aload_n 0, 1) := by decide +kernel
theorem dX12_negation_59 : decode cX12_negation 59 = .ok (.getfield 224, 3) := by decide +kernel
theorem dX12_negation_62 : decode cX12_negation 62 = .ok (.bipush 62, 2) := by decide +kernel
theorem dX12_negation_64 : decode cX12_negation 64 = .ok (.if_icmp .eq 23, 3) := by decide +kernel
theorem dX12_negation_67 : decode cX12_negation 67 = .ok (.aload_n 0, 1) := by decide +kernel
theorem dX12_negation_68 : decode cX12_negation 68 = .ok (.getfield 224, 3) := by decide +kernel
theorem dX12_negation_71 : decode cX12_negation 71 = .ok (.bipush 61, 2) := by decide +kernel
theorem dX12_negation_73 : decode cX12_negation 73 = .ok (.if_icmp .eq 14, 3) := by decide +kernel
theorem dX12_negation_76 : decode cX12_negation 76 = .ok (.aload_n 0, 1) := by decide +kernel
theorem dX12_negation_77 : decode cX12_negation 77 = .ok (.getfield 224, 3) := by decide +kernel
theorem dX12_negation_80 : decode cX12_negation 80 = .ok (.sipush 256, 3) := by decide +kernel
theorem dX12_negation_83 : decode cX12_negation 83 = .ok (.if_icmp .ge 4, 3) := by decide +kernel
theorem dX12_negation_86 : decode cX12_negation 86 = .ok (.return_, 1) := by decide +kernel
theorem dX12_negation_87 : decode cX12_negation 87 = .ok (.aload_n 0, 1) := by decide +kernel
theorem dX12_negation_88 : decode cX12_negation 88 = .ok (.getfield 224, 3) := by decide +kernel
theorem dX12_negation_91 : decode cX12_negation 91 = .ok (.istore_n 1, 1) := by decide +kernel
theorem dX12_negation_92 : decode cX12_negation 92 = .ok (.aload_n 0, 1) := by decide +kernel
theorem dX12_negation_93 : decode cX12_negation 93 = .ok (.invokevirtual 360, 3) := by decide +kernel
theorem dX12_negation_96 : decode cX12_negation 96 = .ok (.aload_n 0, 1) := by decide +kernel
theorem dX12_negation_97 : decode cX12_negation 97 = .ok (.invokevirtual 342, 3) := by decide +kernel
theorem dX12_negation_100 : decode cX12_negation 100 = .ok (.aload_n 0, 1) := by decide +kernel
theorem dX12_negation_101 : decode cX12_negation 101 = .ok (.invokevirtual 370, 3) := by decide +kernel
theorem dX12_negation_104 : decode cX12_negation 104 = .ok (.aload_n 0, 1) := by decide +kernel
theorem dX12_negation_105 : decode cX12_negation 105 = .ok (.iconst 2, 1) := by decide +kernel
theorem dX12_negation_106 : decode cX12_negation 106 = .ok (.iload_n 1, 1) := by decide +kernel
theorem dX12_negation_107 : decode cX12_negation 107 = .ok (.invokevirtual 363, 3) := by decide +kernel
theorem dX12_negation_110 : decode cX12_negation 110 = .ok (.return_, 1) := by decide +kernel
theorem dX12_sum_0 : decode cX12_sum 0 = .ok (.aload_n 0, 1) := by decide +kernel
theorem dX12_sum_1 : decode cX12_sum 1 = .ok (.invokevirtual 373, 3) := by decide +kernel
theorem dX12_sum_4 : decode cX12_sum 4 = .ok (.aload_n 0, 1) := by decide +kernel
theorem dX12_sum_5 : decode cX12_sum 5 = .ok (.bipush 43, 2) := by decide +kernel
theorem dX12_sum_7 : decode cX12_sum 7 = .ok (.invokevirtual 333, 3) := by decide +kernel
theorem dX12_sum_10 : decode cX12_sum 10 = .ok (.ifCond .ne 12, 3) := by decide +kernel
theorem dX12_sum_13 : decode cX12_sum 13 = .ok (.aload_n 0, 1) := by decide +kernel
theorem dX12_sum_14 : decode cX12_sum 14 = .ok (.bipush 45, 2) := by decide +kernel
theorem dX12_sum_16 : decode cX12_sum 16 = .ok (.invokevirtual 333, 3) := by decide +kernel
theorem dX12_sum_19 : decode cX12_sum 19 = .ok (.ifCond .eq 29, 3) := by decide +kernel
theorem dX12_sum_22 : decode cX12_sum 22 = .ok (.aload_n 0, 1) := by decide +kernel
theorem dX12_sum_23 : decode cX12_sum 23 = .ok (.getfield 224, 3) := by decide +kernel
theorem dX12_sum_26 : decode cX12_sum 26 = .ok (.istore_n 1, 1) := by decide +kernel
theorem dX12_sum_27 : decode cX12_sum 27 = .ok (.aload_n 0, 1) := by decide +kernel
theorem dX12_sum_28 : decode cX12_sum 28 = .ok (.invokevirtual 360, 3) := by decide +kernel
theorem dX12_sum_31 : decode cX12_sum 31 = .ok (.aload_n 0, 1) := by decide +kernel
theorem dX12_sum_32 : decode cX12_sum 32 = .ok (.invokevirtual 342, 3) := by decide +kernel
theorem dX12_sum_35 : decode cX12_sum 35 = .ok (.aload_n 0, 1) := by decide +kernel
theorem dX12_sum_36 : decode cX12_sum 36 = .ok (.invokevirtual 373, 3) := by decide +kernel
theorem dX12_sum_39 : decode cX12_sum 39 = .ok (.aload_n 0, 1) := by decide +kernel
theorem dX12_sum_40 : decode cX12_sum 40 = .ok (.iconst 2, 1) := by decide +kernel
theorem dX12_sum_41 : decode cX12_sum 41 = .ok (.iload_n 1, 1) := by decide +kernel
theorem dX12_sum_42 : decode cX12_sum 42 = .ok (.invokevirtual 363, 3) := by decide +kernel
theorem dX12_sum_45 : decode cX12_sum 45 = .ok (.goto (-41), 3) := by decide +kernel
theorem dX12_sum_48 : decode cX12_sum 48 = .ok (.return_, 1) := by decide +kernel
theorem dX12_product_0 : decode cX12_product 0 = .ok (.aload_n 0, 1) := by decide +kernel
theorem dX12_product_1 : decode cX12_product 1 = .ok (.invokevirtual 376, 3) := by decide +kernel
theorem dX12_product_4 : decode cX12_product 4 = .ok (.aload_n 0, 1) := by decide +kernel
theorem dX12_product_5 : decode cX12_product 5 = .ok (.bipush 42, 2) := by decide +kernel
theorem dX12_product_7 : decode cX12_product 7 = .ok (.invokevirtual 333, 3) := by decide +kernel
theorem dX12_product_10 : decode cX12_product 10 = .ok (.ifCond .ne 12, 3) := by decide +kernel
theorem dX12_product_13 : decode cX12_product 13 = .ok (.aload_n 0, 1) := by decide +kernel
theorem dX12_product_14 : decode cX12_product 14 = .ok (.bipush 47, 2) := by decide +kernel
theorem dX12_product_16 : decode cX12_product 16 = .ok (.invokevirtual 333, 3) := by decide +kernel
theorem dX12_product_19 : decode cX12_product 19 = .ok (.ifCond .eq 29, 3) := by decide +kernel
theorem dX12_product_22 : decode cX12_product 22 = .ok (.aload_n 0, 1) := by decide +kernel
theorem dX12_product_23 : decode cX12_product 23 = .ok (.getfield 224, 3) := by decide +kernel
theorem dX12_product_26 : decode cX12_product 26 = .ok (.istore_n 1, 1) := by decide +kernel
theorem dX12_product_27 : decode cX12_product 27 = .ok (.aload_n 0, 1) := by decide +kernel
theorem dX12_product_28 : decode cX12_product 28 = .ok (.invokevirtual 360, 3) := by decide +kernel
theorem dX12_product_31 : decode cX12_product 31 = .ok (.aload_n 0, 1) := by decide +kernel
theorem dX12_product_32 : decode cX12_product 32 = .ok (.invokevirtual 342, 3) := by decide +kernel
theorem dX12_product_35 : decode cX12_product 35 = .ok (.aload_n 0, 1) := by decide +kernel
theorem dX12_product_36 : decode cX12_product 36 = .ok (.invokevirtual 376, 3) := by decide +kernel
theorem dX12_product_39 : decode cX12_product 39 = .ok (.aload_n 0, 1) := by decide +kernel
theorem dX12_product_40 : decode cX12_product 40 = .ok (.iconst 2, 1) := by decide +kernel
theorem dX12_product_41 : decode cX12_product 41 = .ok (.iload_n 1, 1) := by decide +kernel
theorem dX12_product_42 : decode cX12_product 42 = .ok (.invokevirtual 363, 3) := by decide +kernel
theorem dX12_product_45 : decode cX12_product 45 = .ok (.goto (-41), 3) := by decide +kernel
theorem dX12_product_48 : decode cX12_product 48 = .ok (.return_, 1) := by decide +kernel
theorem dX12_primary_0 : decode cX12_primary 0 = .ok (.aload_n 0, 1) := by decide +kernel
theorem dX12_primary_1 : decode cX12_primary 1 = .ok (.getfield 248, 3) := by decide +kernel
theorem dX12_primary_4 : decode cX12_primary 4 = .ok (.ifCond .eq 4, 3) := by decide +kernel
theorem dX12_primary_7 : decode cX12_primary 7 = .ok (.return_, 1) := by decide +kernel
theorem dX12_primary_8 : decode cX12_primary 8 = .ok (.aload_n 0, 1) := by decide +kernel
theorem dX12_primary_9 : decode cX12_primary 9 = .ok (.bipush 40, 2) := by decide +kernel
theorem dX12_primary_11 : decode cX12_primary 11 = .ok (.invokevirtual 333, 3) := by decide +kernel
theorem dX12_primary_14 : decode cX12_primary 14 = .ok (.ifCond .eq 87, 3) := by decide +kernel
theorem dX12_primary_17 : decode cX12_primary 17 = .ok (.aload_n 0, 1) := by decide +kernel
theorem dX12_primary_18 : decode cX12_primary 18 = .ok (.getfield 379, 3) := by decide +kernel
theorem dX12_primary_21 : decode cX12_primary 21 = .ok (.bipush 8, 2) := by decide +kernel
theorem dX12_primary_23 : decode cX12_primary 23 = .ok (.if_icmp .ne 8, 3) := by decide +kernel
theorem dX12_primary_26 : decode cX12_primary 26 = .ok (.aload_n 0, 1) := by decide +kernel
theorem dX12_primary_27 : decode cX12_primary 27 = .ok (.iconst 2, 1) := by decide +kernel
theorem dX12_primary_28 : decode cX12_primary 28 = .ok (.invokevirtual 257, 3) := by decide +kernel
theorem dX12_primary_31 : decode cX12_primary 31 = .ok (.aload_n 0, 1) := by decide +kernel
theorem dX12_primary_32 : decode cX12_primary 32 = .ok (.getfield 248, 3) := by decide +kernel
theorem dX12_primary_35 : decode cX12_primary 35 = .ok (.ifCond .eq 4, 3) := by decide +kernel
theorem dX12_primary_38 : decode cX12_primary 38 = .ok (.return_, 1) := by decide +kernel
theorem dX12_primary_39 : decode cX12_primary 39 = .ok (.aload_n 0, 1) := by decide +kernel
theorem dX12_primary_40 : decode cX12_primary 40 = .ok (.dup, 1) := by decide +kernel
theorem dX12_primary_41 : decode cX12_primary 41 = .ok (.getfield 379, 3) := by decide +kernel
theorem dX12_primary_44 : decode cX12_primary 44 = .ok (.iconst 1, 1) := by decide +kernel
theorem dX12_primary_45 : decode cX12_primary 45 = .ok (.iadd, 1) := by decide +kernel
theorem dX12_primary_46 : decode cX12_primary 46 = .ok (.putfield 379, 3) := by decide +kernel
theorem dX12_primary_49 : decode cX12_primary 49 = .ok (.aload_n 0, 1) := by decide +kernel
theorem dX12_primary_50 : decode cX12_primary 50 = .ok (.invokevirtual 254, 3) := by decide +kernel
theorem dX12_primary_53 : decode cX12_primary 53 = .ok (.aload_n 0, 1) := by decide +kernel
theorem dX12_primary_54 : decode cX12_primary 54 = .ok (.invokevirtual 315, 3) := by decide +kernel
theorem dX12_primary_57 : decode cX12_primary 57 = .ok (.aload_n 0, 1) := by decide +kernel
theorem dX12_primary_58 : decode cX12_primary 58 = .ok (.getfield 248, 3) := by decide +kernel
theorem dX12_primary_61 : decode cX12_primary 61 = .ok (.ifCond .ne 17, 3) := by decide +kernel
theorem dX12_primary_64 : decode cX12_primary 64 = .ok (.aload_n 0, 1) := by decide +kernel
theorem dX12_primary_65 : decode cX12_primary 65 = .ok (.bipush 41, 2) := by decide +kernel
theorem dX12_primary_67 : decode cX12_primary 67 = .ok (.invokevirtual 333, 3) := by decide +kernel
theorem dX12_primary_70 : decode cX12_primary 70 = .ok (.ifCond .ne 8, 3) := by decide +kernel
theorem dX12_primary_73 : decode cX12_primary 73 = .ok (.aload_n 0, 1) := by decide +kernel
theorem dX12_primary_74 : decode cX12_primary 74 = .ok (.iconst 1, 1) := by decide +kernel
theorem dX12_primary_75 : decode cX12_primary 75 = .ok (.invokevirtual 257, 3) := by decide +kernel
theorem dX12_primary_78 : decode cX12_primary 78 = .ok (.aload_n 0, 1) := by decide +kernel
theorem dX12_primary_79 : decode cX12_primary 79 = .ok (.getfield 248, 3) := by decide +kernel
theorem dX12_primary_82 : decode cX12_primary 82 = .ok (.ifCond .eq 4, 3) := by decide +kernel
theorem dX12_primary_85 : decode cX12_primary 85 = .ok (.return_, 1) := by decide +kernel
theorem dX12_primary_86 : decode cX12_primary 86 = .ok (.aload_n 0, 1) := by decide +kernel
theorem dX12_primary_87 : decode cX12_primary 87 = .ok (.dup, 1) := by decide +kernel
theorem dX12_primary_88 : decode cX12_primary 88 = .ok (.getfield 379, 3) := by decide +kernel
theorem dX12_primary_91 : decode cX12_primary 91 = .ok (.iconst 1, 1) := by decide +kernel
theorem dX12_primary_92 : decode cX12_primary 92 = .ok (.isub, 1) := by decide +kernel
theorem dX12_primary_93 : decode cX12_primary 93 = .ok (.putfield 379, 3) := by decide +kernel
theorem dX12_primary_96 : decode cX12_primary 96 = .ok (.aload_n 0, 1) := by decide +kernel
theorem dX12_primary_97 : decode cX12_primary 97 = .ok (.invokevirtual 254, 3) := by decide +kernel
theorem dX12_primary_100 : decode cX12_primary 100 = .ok (.return_, 1) := by decide +kernel
theorem dX12_primary_101 : decode cX12_primary 101 = .ok (.aload_n 0, 1) := by decide +kernel
theorem dX12_primary_102 : decode cX12_primary 102 = .ok (.getfield 214, 3) := by decide +kernel
theorem dX12_primary_105 : decode cX12_primary 105 = .ok (.iconst 2, 1) := by decide +kernel
theorem dX12_primary_106 : decode cX12_primary 106 = .ok (.if_icmp .ne 7, 3) := by decide +kernel
theorem dX12_primary_109 : decode cX12_primary 109 = .ok (.iconst 1, 1) := by decide +kernel
theorem dX12_primary_110 : decode cX12_primary 110 = .ok (.goto 4, 3) := by decide +kernel
theorem dX12_primary_113 : decode cX12_primary 113 = .ok (.iconst 0, 1) := by decide +kernel
theorem dX12_primary_114 : decode cX12_primary 114 = .ok (.istore_n 1, 1) := by decide +kernel
theorem dX12_primary_115 : decode cX12_primary 115 = .ok (.aload_n 0, 1) := by decide +kernel
theorem dX12_primary_116 : decode cX12_primary 116 = .ok (.getfield 214, 3) := by decide +kernel
theorem dX12_primary_119 : decode cX12_primary 119 = .ok (.ifCond .ne 25, 3) := by decide +kernel
theorem dX12_primary_122 : decode cX12_primary 122 = .ok (.aload_n 0, 1) := by decide +kernel
theorem dX12_primary_123 : decode cX12_primary 123 = .ok (.getfield 224, 3) := by decide +kernel
theorem dX12_primary_126 : decode cX12_primary 126 = .ok (.bipush 13, 2) := by decide +kernel
theorem dX12_primary_128 : decode cX12_primary 128 = .ok (.if_icmp .eq 12, 3) := by decide +kernel
theorem dX12_primary_131 : decode cX12_primary 131 = .ok (.aload_n 0, 1) := by decide +kernel
theorem dX12_primary_132 : decode cX12_primary 132 = .ok (.getfield 224, 3) := by decide +kernel
theorem dX12_primary_135 : decode cX12_primary 135 = .ok (.bipush 20, 2) := by decide +kernel
theorem dX12_primary_137 : decode cX12_primary 137 = .ok (.if_icmp .lt 7, 3) := by decide +kernel
theorem dX12_primary_140 : decode cX12_primary 140 = .ok (.iconst 1, 1) := by decide +kernel
theorem dX12_primary_141 : decode cX12_primary 141 = .ok (.goto 4, 3) := by decide +kernel
theorem dX12_primary_144 : decode cX12_primary 144 = .ok (.iconst 0, 1) := by decide +kernel
theorem dX12_primary_145 : decode cX12_primary 145 = .ok (.istore_n 2, 1) := by decide +kernel
theorem dX12_primary_146 : decode cX12_primary 146 = .ok (.iload_n 1, 1) := by decide +kernel
theorem dX12_primary_147 : decode cX12_primary 147 = .ok (.ifCond .eq 21, 3) := by decide +kernel
theorem dX12_primary_150 : decode cX12_primary 150 = .ok (.aload_n 0, 1) := by decide +kernel
theorem dX12_primary_151 : decode cX12_primary 151 = .ok (.getfield 224, 3) := by decide +kernel
theorem dX12_primary_154 : decode cX12_primary 154 = .ok (.sipush 9999, 3) := by decide +kernel
theorem dX12_primary_157 : decode cX12_primary 157 = .ok (.if_icmp .le 11, 3) := by decide +kernel
theorem dX12_primary_160 : decode cX12_primary 160 = .ok (.aload_n 0, 1) := by decide +kernel
theorem dX12_primary_161 : decode cX12_primary 161 = .ok (.iconst 2, 1) := by decide +kernel
theorem dX12_primary_162 : decode cX12_primary 162 = .ok (.invokevirtual 257, 3) := by decide +kernel
theorem dX12_primary_165 : decode cX12_primary 165 = .ok (.goto 16, 3) := by decide +kernel
theorem dX12_primary_168 : decode cX12_primary 168 = .ok (.iload_n 1, 1) := by decide +kernel
theorem dX12_primary_169 : decode cX12_primary 169 = .ok (.ifCond .ne 12, 3) := by decide +kernel
theorem dX12_primary_172 : decode cX12_primary 172 = .ok (.iload_n 2, 1) := by decide +kernel
theorem dX12_primary_173 : decode cX12_primary 173 = .ok (.ifCond .ne 8, 3) := by decide +kernel
theorem dX12_primary_176 : decode cX12_primary 176 = .ok (.aload_n 0, 1) := by decide +kernel
theorem dX12_primary_177 : decode cX12_primary 177 = .ok (.iconst 1, 1) := by decide +kernel
theorem dX12_primary_178 : decode cX12_primary 178 = .ok (.invokevirtual 257, 3) := by decide +kernel
theorem dX12_primary_181 : decode cX12_primary 181 = .ok (.aload_n 0, 1) := by decide +kernel
theorem dX12_primary_182 : decode cX12_primary 182 = .ok (.invokevirtual 360, 3) := by decide +kernel
theorem dX12_primary_185 : decode cX12_primary 185 = .ok (.aload_n 0, 1) := by decide +kernel
theorem dX12_primary_186 : decode cX12_primary 186 = .ok (.iload_n 1, 1) := by decide +kernel
theorem dX12_primary_187 : decode cX12_primary 187 = .ok (.ifCond .eq 7, 3) := by decide +kernel
theorem dX12_primary_190 : decode cX12_primary 190 = .ok (.iconst 0, 1) := by decide +kernel
theorem dX12_primary_191 : decode cX12_primary 191 = .ok (.goto 4, 3) := by decide +kernel
theorem dX12_primary_194 : decode cX12_primary 194 = .ok (.iconst 1, 1) := by decide +kernel
theorem dX12_primary_195 : decode cX12_primary 195 = .ok (.aload_n 0, 1) := by decide +kernel
theorem dX12_primary_196 : decode cX12_primary 196 = .ok (.getfield 224, 3) := by decide +kernel
theorem dX12_primary_199 : decode cX12_primary 199 = .ok (.invokevirtual 363, 3) := by decide +kernel
theorem dX12_primary_202 : decode cX12_primary 202 = .ok (.aload_n 0, 1) := by decide +kernel
theorem dX12_primary_203 : decode cX12_primary 203 = .ok (.invokevirtual 342, 3) := by decide +kernel
theorem dX12_primary_206 : decode cX12_primary 206 = .ok (.return_, 1) := by decide +kernel
theorem dX12_text_0 : decode cX12_text 0 = .ok (.aload_n 0, 1) := by decide +kernel
theorem dX12_text_1 : decode cX12_text 1 = .ok (.iconst 0, 1) := by decide +kernel
theorem dX12_text_2 : decode cX12_text 2 = .ok (.putfield 195, 3) := by decide +kernel
theorem dX12_text_5 : decode cX12_text 5 = .ok (.iload_n 1, 1) := by decide +kernel
theorem dX12_text_6 : decode cX12_text 6 = .ok (.ifCond .lt 11, 3) := by decide +kernel
theorem dX12_text_9 : decode cX12_text 9 = .ok (.iload_n 1, 1) := by decide +kernel
theorem dX12_text_10 : decode cX12_text 10 = .ok (.aload_n 0, 1) := by decide +kernel
theorem dX12_text_11 : decode cX12_text 11 = .ok (.getfield 198, 3) := by decide +kernel
theorem dX12_text_14 : decode cX12_text 14 = .ok (.if_icmp .le 6, 3) := by decide +kernel
theorem dX12_text_17 : decode cX12_text 17 = .ok (.bipush (-2), 2) := by decide +kernel
theorem dX12_text_19 : decode cX12_text 19 = .ok (.ireturn, 1) := by decide +kernel
theorem dX12_text_20 : decode cX12_text 20 = .ok (.aload_n 0, 1) := by decide +kernel
theorem dX12_text_21 : decode cX12_text 21 = .ok (.iload_n 1, 1) := by decide +kernel
theorem dX12_text_22 : decode cX12_text 22 = .ok (.putfield 204, 3) := by decide +kernel
theorem dX12_text_25 : decode cX12_text 25 = .ok (.aload_n 0, 1) := by decide +kernel
theorem dX12_text_26 : decode cX12_text 26 = .ok (.iconst 0, 1) := by decide +kernel
theorem dX12_text_27 : decode cX12_text 27 = .ok (.putfield 198, 3) := by decide +kernel
theorem dX12_text_30 : decode cX12_text 30 = .ok (.aload_n 0, 1) := by decide +kernel
theorem dX12_text_31 : decode cX12_text 31 = .ok (.iconst 0, 1) := by decide +kernel
theorem dX12_text_32 : decode cX12_text 32 = .ok (.putfield 201, 3) := by decide +kernel
theorem dX12_text_35 : decode cX12_text 35 = .ok (.aload_n 0, 1) := by decide +kernel
theorem dX12_text_36 : decode cX12_text 36 = .ok (.iconst 0, 1) := by decide +kernel
theorem dX12_text_37 : decode cX12_text 37 = .ok (.putfield 248, 3) := by decide +kernel
theorem dX12_text_40 : decode cX12_text 40 = .ok (.aload_n 0, 1) := by decide +kernel
theorem dX12_text_41 : decode cX12_text 41 = .ok (.iconst (-1), 1) := by decide +kernel
theorem dX12_text_42 : decode cX12_text 42 = .ok (.putfield 251, 3) := by decide +kernel
theorem dX12_text_45 : decode cX12_text 45 = .ok (.aload_n 0, 1) := by decide +kernel
theorem dX12_text_46 : decode cX12_text 46 = .ok (.iconst 0, 1) := by decide +kernel
theorem dX12_text_47 : decode cX12_text 47 = .ok (.putfield 268, 3) := by decide +kernel
theorem dX12_text_50 : decode cX12_text 50 = .ok (.aload_n 0, 1) := by decide +kernel
theorem dX12_text_51 : decode cX12_text 51 = .ok (.iconst 0, 1) := by decide +kernel
theorem dX12_text_52 : decode cX12_text 52 = .ok (.putfield 271, 3) := by decide +kernel
theorem dX12_text_55 : decode cX12_text 55 = .ok (.aload_n 0, 1) := by decide +kernel
theorem dX12_text_56 : decode cX12_text 56 = .ok (.iconst 0, 1) := by decide +kernel
theorem dX12_text_57 : decode cX12_text 57 = .ok (.putfield 274, 3) := by decide +kernel
theorem dX12_text_60 : decode cX12_text 60 = .ok (.aload_n 0, 1) := by decide +kernel
theorem dX12_text_61 : decode cX12_text 61 = .ok (.iconst 0, 1) := by decide +kernel
theorem dX12_text_62 : decode cX12_text 62 = .ok (.putfield 277, 3) := by decide +kernel
theorem dX12_text_65 : decode cX12_text 65 = .ok (.aload_n 0, 1) := by decide +kernel
theorem dX12_text_66 : decode cX12_text 66 = .ok (.iconst 0, 1) := by decide +kernel
theorem dX12_text_67 : decode cX12_text 67 = .ok (.putfield 280, 3) := by decide +kernel
theorem dX12_text_70 : decode cX12_text 70 = .ok (.aload_n 0, 1) := by decide +kernel
theorem dX12_text_71 : decode cX12_text 71 = .ok (.iconst 0, 1) := by decide +kernel
theorem dX12_text_72 : decode cX12_text 72 = .ok (.putfield 312, 3) := by decide +kernel
theorem dX12_text_75 : decode cX12_text 75 = .ok (.aload_n 0, 1) := by decide +kernel
theorem dX12_text_76 : decode cX12_text 76 = .ok (.iconst 0, 1) := by decide +kernel
theorem dX12_text_77 : decode cX12_text 77 = .ok (.putfield 318, 3) := by decide +kernel
theorem dX12_text_80 : decode cX12_text 80 = .ok (.aload_n 0, 1) := by decide +kernel
theorem dX12_text_81 : decode cX12_text 81 = .ok (.iconst 0, 1) := by decide +kernel
theorem dX12_text_82 : decode cX12_text 82 = .ok (.putfield 321, 3) := by decide +kernel
theorem dX12_text_85 : decode cX12_text 85 = .ok (.aload_n 0, 1) := by decide +kernel
theorem dX12_text_86 : decode cX12_text 86 = .ok (.iconst 0, 1) := by decide +kernel
theorem dX12_text_87 : decode cX12_text 87 = .ok (.putfield 324, 3) := by decide +kernel
theorem dX12_text_90 : decode cX12_text 90 = .ok (.aload_n 0, 1) := by decide +kernel
theorem dX12_text_91 : decode cX12_text 91 = .ok (.iconst 0, 1) := by decide +kernel
theorem dX12_text_92 : decode cX12_text 92 = .ok (.putfield 327, 3) := by decide +kernel
theorem dX12_text_95 : decode cX12_text 95 = .ok (.aload_n 0, 1) := by decide +kernel
theorem dX12_text_96 : decode cX12_text 96 = .ok (.iconst 0, 1) := by decide +kernel
theorem dX12_text_97 : decode cX12_text 97 = .ok (.putfield 330, 3) := by decide +kernel
theorem dX12_text_100 : decode cX12_text 100 = .ok (.aload_n 0, 1) := by decide +kernel
theorem dX12_text_101 : decode cX12_text 101 = .ok (.iconst 0, 1) := by decide +kernel
theorem dX12_text_102 : decode cX12_text 102 = .ok (.putfield 309, 3) := by decide +kernel
theorem dX12_text_105 : decode cX12_text 105 = .ok (.aload_n 0, 1) := by decide +kernel
theorem dX12_text_106 : decode cX12_text 106 = .ok (.iconst 0, 1) := by decide +kernel
theorem dX12_text_107 : decode cX12_text 107 = .ok (.putfield 354, 3) := by decide +kernel
theorem dX12_text_110 : decode cX12_text 110 = .ok (.aload_n 0, 1) := by decide +kernel
theorem dX12_text_111 : decode cX12_text 111 = .ok (.iconst 0, 1) := by decide +kernel
theorem dX12_text_112 : decode cX12_text 112 = .ok (.putfield 286, 3) := by decide +kernel
theorem dX12_text_115 : decode cX12_text 115 = .ok (.aload_n 0, 1) := by decide +kernel
theorem dX12_text_116 : decode cX12_text 116 = .ok (.iconst 0, 1) := by decide +kernel
theorem dX12_text_117 : decode cX12_text 117 = .ok (.putfield 336, 3) := by decide +kernel
theorem dX12_text_120 : decode cX12_text 120 = .ok (.aload_n 0, 1) := by decide +kernel
theorem dX12_text_121 : decode cX12_text 121 = .ok (.iconst 0, 1) := by decide +kernel
theorem dX12_text_122 : decode cX12_text 122 = .ok (.putfield 379, 3) := by decide +kernel
theorem dX12_text_125 : decode cX12_text 125 = .ok (.iconst 0, 1) := by decide +kernel
theorem dX12_text_126 : decode cX12_text 126 = .ok (.istore_n 2, 1) := by decide +kernel
theorem dX12_text_127 : decode cX12_text 127 = .ok (.iload_n 2, 1) := by decide +kernel
theorem dX12_text_128 : decode cX12_text 128 = .ok (.sipush 200, 3) := by decide +kernel
theorem dX12_text_131 : decode cX12_text 131 = .ok (.if_icmp .ge 20, 3) := by decide +kernel
theorem dX12_text_134 : decode cX12_text 134 = .ok (.aload_n 0, 1) := by decide +kernel
theorem dX12_text_135 : decode cX12_text 135 = .ok (.getfield 100, 3) := by decide +kernel
theorem dX12_text_138 : decode cX12_text 138 = .ok (.sipush 200, 3) := by decide +kernel
theorem dX12_text_141 : decode cX12_text 141 = .ok (.iload_n 2, 1) := by decide +kernel
theorem dX12_text_142 : decode cX12_text 142 = .ok (.iadd, 1) := by decide +kernel
theorem dX12_text_143 : decode cX12_text 143 = .ok (.iconst 0, 1) := by decide +kernel
theorem dX12_text_144 : decode cX12_text 144 = .ok (.bastore, 1) := by decide +kernel
theorem dX12_text_145 : decode cX12_text 145 = .ok (.iinc 2 1, 3) := by decide +kernel
theorem dX12_text_148 : decode cX12_text 148 = .ok (.goto (-21), 3) := by decide +kernel
theorem dX12_text_151 : decode cX12_text 151 = .ok (.aload_n 0, 1) := by decide +kernel
theorem dX12_text_152 : decode cX12_text 152 = .ok (.invokevirtual 254, 3) := by decide +kernel
theorem dX12_text_155 : decode cX12_text 155 = .ok (.aload_n 0, 1) := by decide +kernel
theorem dX12_text_156 : decode cX12_text 156 = .ok (.getfield 248, 3) := by decide +kernel
theorem dX12_text_159 : decode cX12_text 159 = .ok (.ifCond .ne 18, 3) := by decide +kernel
theorem dX12_text_162 : decode cX12_text 162 = .ok (.aload_n 0, 1) := by decide +kernel
theorem dX12_text_163 : decode cX12_text 163 = .ok (.getfield 214, 3) := by decide +kernel
theorem dX12_text_166 : decode cX12_text 166 = .ok (.iconst 4, 1) := by decide +kernel
theorem dX12_text_167 : decode cX12_text 167 = .ok (.if_icmp .eq 10, 3) := by decide +kernel
theorem dX12_text_170 : decode cX12_text 170 = .ok (.aload_n 0, 1) := by decide +kernel
theorem dX12_text_171 : decode cX12_text 171 = .ok (.invokevirtual 382, 3) := by decide +kernel
theorem dX12_text_174 : decode cX12_text 174 = .ok (.goto (-19), 3) := by decide +kernel
theorem dX12_text_177 : decode cX12_text 177 = .ok (.aload_n 0, 1) := by decide +kernel
theorem dX12_text_178 : decode cX12_text 178 = .ok (.aload_n 0, 1) := by decide +kernel
theorem dX12_text_179 : decode cX12_text 179 = .ok (.getfield 248, 3) := by decide +kernel
theorem dX12_text_182 : decode cX12_text 182 = .ok (.putfield 385, 3) := by decide +kernel
theorem dX12_text_185 : decode cX12_text 185 = .ok (.aload_n 0, 1) := by decide +kernel
theorem dX12_text_186 : decode cX12_text 186 = .ok (.aload_n 0, 1) := by decide +kernel
theorem dX12_text_187 : decode cX12_text 187 = .ok (.getfield 251, 3) := by decide +kernel
theorem dX12_text_190 : decode cX12_text 190 = .ok (.putfield 109, 3) := by decide +kernel
theorem dX12_text_193 : decode cX12_text 193 = .ok (.aload_n 0, 1) := by decide +kernel
theorem dX12_text_194 : decode cX12_text 194 = .ok (.getfield 248, 3) := by decide +kernel
theorem dX12_text_197 : decode cX12_text 197 = .ok (.ifCond .eq 5, 3) := by decide +kernel
theorem dX12_text_200 : decode cX12_text 200 = .ok (.iconst (-1), 1) := by decide +kernel
theorem dX12_text_201 : decode cX12_text 201 = .ok (.ireturn, 1) := by decide +kernel
theorem dX12_text_202 : decode cX12_text 202 = .ok (.aload_n 0, 1) := by decide +kernel
theorem dX12_text_203 : decode cX12_text 203 = .ok (.invokevirtual 388, 3) := by decide +kernel
theorem dX12_text_206 : decode cX12_text 206 = .ok (.aload_n 0, 1) := by decide +kernel
theorem dX12_text_207 : decode cX12_text 207 = .ok (.getfield 336, 3) := by decide +kernel
theorem dX12_text_210 : decode cX12_text 210 = .ok (.ireturn, 1) := by decide +kernel
theorem dX12_half_0 : decode cX12_half 0 = .ok (.aload_n 0, 1) := by decide +kernel
theorem dX12_half_1 : decode cX12_half 1 = .ok (.arraylength, 1) := by decide +kernel
theorem dX12_half_2 : decode cX12_half 2 = .ok (.iconst 2, 1) := by decide +kernel
theorem dX12_half_3 : decode cX12_half 3 = .ok (.idiv, 1) := by decide +kernel
theorem dX12_half_4 : decode cX12_half 4 = .ok (.istore_n 1, 1) := by decide +kernel
theorem dX12_half_5 : decode cX12_half 5 = .ok (.iconst 0, 1) := by decide +kernel
theorem dX12_half_6 : decode cX12_half 6 = .ok (.istore_n 2, 1) := by decide +kernel
theorem dX12_half_7 : decode cX12_half 7 = .ok (.iload_n 2, 1) := by decide +kernel
theorem dX12_half_8 : decode cX12_half 8 = .ok (.iload_n 1, 1) := by decide +kernel
theorem dX12_half_9 : decode cX12_half 9 = .ok (.if_icmp .ge 17, 3) := by decide +kernel
theorem dX12_half_12 : decode cX12_half 12 = .ok (.aload_n 0, 1) := by decide +kernel
theorem dX12_half_13 : decode cX12_half 13 = .ok (.iload_n 2, 1) := by decide +kernel
theorem dX12_half_14 : decode cX12_half 14 = .ok (.aload_n 0, 1) := by decide +kernel
theorem dX12_half_15 : decode cX12_half 15 = .ok (.iload_n 1, 1) := by decide +kernel
theorem dX12_half_16 : decode cX12_half 16 = .ok (.iload_n 2, 1) := by decide +kernel
theorem dX12_half_17 : decode cX12_half 17 = .ok (.iadd, 1) := by decide +kernel
theorem dX12_half_18 : decode cX12_half 18 = .ok (.iaload, 1) := by decide +kernel
theorem dX12_half_19 : decode cX12_half 19 = .ok (.iastore, 1) := by decide +kernel
theorem dX12_half_20 : decode cX12_half 20 = .ok (.iinc 2 1, 3) := by decide +kernel
theorem dX12_half_23 : decode cX12_half 23 = .ok (.goto (-16), 3) := by decide +kernel
theorem dX12_half_26 : decode cX12_half 26 = .ok (.return_, 1) := by decide +kernel
theorem dX12_laid_0 : decode cX12_laid 0 = .ok (.aload_n 0, 1) := by decide +kernel
theorem dX12_laid_1 : decode cX12_laid 1 = .ok (.aload_n 0, 1) := by decide +kernel
theorem dX12_laid_2 : decode cX12_laid 2 = .ok (.getfield 268, 3) := by decide +kernel
theorem dX12_laid_5 : decode cX12_laid 5 = .ok (.putfield 391, 3) := by decide +kernel
theorem dX12_laid_8 : decode cX12_laid 8 = .ok (.aload_n 0, 1) := by decide +kernel
theorem dX12_laid_9 : decode cX12_laid 9 = .ok (.aload_n 0, 1) := by decide +kernel
theorem dX12_laid_10 : decode cX12_laid 10 = .ok (.getfield 271, 3) := by decide +kernel
theorem dX12_laid_13 : decode cX12_laid 13 = .ok (.putfield 394, 3) := by decide +kernel
theorem dX12_laid_16 : decode cX12_laid 16 = .ok (.aload_n 0, 1) := by decide +kernel
theorem dX12_laid_17 : decode cX12_laid 17 = .ok (.aload_n 0, 1) := by decide +kernel
theorem dX12_laid_18 : decode cX12_laid 18 = .ok (.getfield 274, 3) := by decide +kernel
theorem dX12_laid_21 : decode cX12_laid 21 = .ok (.putfield 397, 3) := by decide +kernel
theorem dX12_laid_24 : decode cX12_laid 24 = .ok (.aload_n 0, 1) := by decide +kernel
theorem dX12_laid_25 : decode cX12_laid 25 = .ok (.aload_n 0, 1) := by decide +kernel
theorem dX12_laid_26 : decode cX12_laid 26 = .ok (.getfield 277, 3) := by decide +kernel
theorem dX12_laid_29 : decode cX12_laid 29 = .ok (.putfield 400, 3) := by decide +kernel
theorem dX12_laid_32 : decode cX12_laid 32 = .ok (.aload_n 0, 1) := by decide +kernel
theorem dX12_laid_33 : decode cX12_laid 33 = .ok (.aload_n 0, 1) := by decide +kernel
theorem dX12_laid_34 : decode cX12_laid 34 = .ok (.getfield 280, 3) := by decide +kernel
theorem dX12_laid_37 : decode cX12_laid 37 = .ok (.putfield 403, 3) := by decide +kernel
theorem dX12_laid_40 : decode cX12_laid 40 = .ok (.aload_n 0, 1) := by decide +kernel
theorem dX12_laid_41 : decode cX12_laid 41 = .ok (.aload_n 0, 1) := by decide +kernel
theorem dX12_laid_42 : decode cX12_laid 42 = .ok (.getfield 312, 3) := by decide +kernel
theorem dX12_laid_45 : decode cX12_laid 45 = .ok (.putfield 406, 3) := by decide +kernel
theorem dX12_laid_48 : decode cX12_laid 48 = .ok (.aload_n 0, 1) := by decide +kernel
theorem dX12_laid_49 : decode cX12_laid 49 = .ok (.aload_n 0, 1) := by decide +kernel
theorem dX12_laid_50 : decode cX12_laid 50 = .ok (.getfield 318, 3) := by decide +kernel
theorem dX12_laid_53 : decode cX12_laid 53 = .ok (.putfield 409, 3) := by decide +kernel
theorem dX12_laid_56 : decode cX12_laid 56 = .ok (.aload_n 0, 1) := by decide +kernel
theorem dX12_laid_57 : decode cX12_laid 57 = .ok (.aload_n 0, 1) := by decide +kernel
theorem dX12_laid_58 : decode cX12_laid 58 = .ok (.getfield 321, 3) := by decide +kernel
theorem dX12_laid_61 : decode cX12_laid 61 = .ok (.putfield 412, 3) := by decide +kernel
theorem dX12_laid_64 : decode cX12_laid 64 = .ok (.aload_n 0, 1) := by decide +kernel
theorem dX12_laid_65 : decode cX12_laid 65 = .ok (.aload_n 0, 1) := by decide +kernel
theorem dX12_laid_66 : decode cX12_laid 66 = .ok (.getfield 324, 3) := by decide +kernel
theorem dX12_laid_69 : decode cX12_laid 69 = .ok (.putfield 415, 3) := by decide +kernel
theorem dX12_laid_72 : decode cX12_laid 72 = .ok (.aload_n 0, 1) := by decide +kernel
theorem dX12_laid_73 : decode cX12_laid 73 = .ok (.aload_n 0, 1) := by decide +kernel
theorem dX12_laid_74 : decode cX12_laid 74 = .ok (.getfield 327, 3) := by decide +kernel
theorem dX12_laid_77 : decode cX12_laid 77 = .ok (.putfield 418, 3) := by decide +kernel
theorem dX12_laid_80 : decode cX12_laid 80 = .ok (.aload_n 0, 1) := by decide +kernel
theorem dX12_laid_81 : decode cX12_laid 81 = .ok (.aload_n 0, 1) := by decide +kernel
theorem dX12_laid_82 : decode cX12_laid 82 = .ok (.getfield 330, 3) := by decide +kernel
theorem dX12_laid_85 : decode cX12_laid 85 = .ok (.putfield 421, 3) := by decide +kernel
theorem dX12_laid_88 : decode cX12_laid 88 = .ok (.aload_n 0, 1) := by decide +kernel
theorem dX12_laid_89 : decode cX12_laid 89 = .ok (.aload_n 0, 1) := by decide +kernel
theorem dX12_laid_90 : decode cX12_laid 90 = .ok (.getfield 309, 3) := by decide +kernel
theorem dX12_laid_93 : decode cX12_laid 93 = .ok (.putfield 424, 3) := by decide +kernel
theorem dX12_laid_96 : decode cX12_laid 96 = .ok (.aload_n 0, 1) := by decide +kernel
theorem dX12_laid_97 : decode cX12_laid 97 = .ok (.getfield 15, 3) := by decide +kernel
theorem dX12_laid_100 : decode cX12_laid 100 = .ok (.invokestatic 427, 3) := by decide +kernel
theorem dX12_laid_103 : decode cX12_laid 103 = .ok (.aload_n 0, 1) := by decide +kernel
theorem dX12_laid_104 : decode cX12_laid 104 = .ok (.getfield 18, 3) := by decide +kernel
theorem dX12_laid_107 : decode cX12_laid 107 = .ok (.invokestatic 427, 3) := by decide +kernel
theorem dX12_laid_110 : decode cX12_laid 110 = .ok (.aload_n 0, 1) := by decide +kernel
theorem dX12_laid_111 : decode cX12_laid 111 = .ok (.getfield 21, 3) := by decide +kernel
theorem dX12_laid_114 : decode cX12_laid 114 = .ok (.invokestatic 427, 3) := by decide +kernel
theorem dX12_laid_117 : decode cX12_laid 117 = .ok (.aload_n 0, 1) := by decide +kernel
theorem dX12_laid_118 : decode cX12_laid 118 = .ok (.getfield 24, 3) := by decide +kernel
theorem dX12_laid_121 : decode cX12_laid 121 = .ok (.invokestatic 427, 3) := by decide +kernel
theorem dX12_laid_124 : decode cX12_laid 124 = .ok (.aload_n 0, 1) := by decide +kernel
theorem dX12_laid_125 : decode cX12_laid 125 = .ok (.getfield 27, 3) := by decide +kernel
theorem dX12_laid_128 : decode cX12_laid 128 = .ok (.invokestatic 427, 3) := by decide +kernel
theorem dX12_laid_131 : decode cX12_laid 131 = .ok (.aload_n 0, 1) := by decide +kernel
theorem dX12_laid_132 : decode cX12_laid 132 = .ok (.getfield 30, 3) := by decide +kernel
theorem dX12_laid_135 : decode cX12_laid 135 = .ok (.invokestatic 427, 3) := by decide +kernel
theorem dX12_laid_138 : decode cX12_laid 138 = .ok (.aload_n 0, 1) := by decide +kernel
theorem dX12_laid_139 : decode cX12_laid 139 = .ok (.getfield 33, 3) := by decide +kernel
theorem dX12_laid_142 : decode cX12_laid 142 = .ok (.invokestatic 427, 3) := by decide +kernel
theorem dX12_laid_145 : decode cX12_laid 145 = .ok (.aload_n 0, 1) := by decide +kernel
theorem dX12_laid_146 : decode cX12_laid 146 = .ok (.getfield 36, 3) := by decide +kernel
theorem dX12_laid_149 : decode cX12_laid 149 = .ok (.invokestatic 427, 3) := by decide +kernel
theorem dX12_laid_152 : decode cX12_laid 152 = .ok (.aload_n 0, 1) := by decide +kernel
theorem dX12_laid_153 : decode cX12_laid 153 = .ok (.getfield 39, 3) := by decide +kernel
theorem dX12_laid_156 : decode cX12_laid 156 = .ok (.invokestatic 427, 3) := by decide +kernel
theorem dX12_laid_159 : decode cX12_laid 159 = .ok (.aload_n 0, 1) := by decide +kernel
theorem dX12_laid_160 : decode cX12_laid 160 = .ok (.getfield 42, 3) := by decide +kernel
theorem dX12_laid_163 : decode cX12_laid 163 = .ok (.invokestatic 427, 3) := by decide +kernel
theorem dX12_laid_166 : decode cX12_laid 166 = .ok (.aload_n 0, 1) := by decide +kernel
theorem dX12_laid_167 : decode cX12_laid 167 = .ok (.getfield 45, 3) := by decide +kernel
theorem dX12_laid_170 : decode cX12_laid 170 = .ok (.invokestatic 427, 3) := by decide +kernel
theorem dX12_laid_173 : decode cX12_laid 173 = .ok (.aload_n 0, 1) := by decide +kernel
theorem dX12_laid_174 : decode cX12_laid 174 = .ok (.getfield 48, 3) := by decide +kernel
theorem dX12_laid_177 : decode cX12_laid 177 = .ok (.invokestatic 427, 3) := by decide +kernel
theorem dX12_laid_180 : decode cX12_laid 180 = .ok (.aload_n 0, 1) := by decide +kernel
theorem dX12_laid_181 : decode cX12_laid 181 = .ok (.getfield 51, 3) := by decide +kernel
theorem dX12_laid_184 : decode cX12_laid 184 = .ok (.invokestatic 427, 3) := by decide +kernel
theorem dX12_laid_187 : decode cX12_laid 187 = .ok (.aload_n 0, 1) := by decide +kernel
theorem dX12_laid_188 : decode cX12_laid 188 = .ok (.getfield 54, 3) := by decide +kernel
theorem dX12_laid_191 : decode cX12_laid 191 = .ok (.invokestatic 427, 3) := by decide +kernel
theorem dX12_laid_194 : decode cX12_laid 194 = .ok (.aload_n 0, 1) := by decide +kernel
theorem dX12_laid_195 : decode cX12_laid 195 = .ok (.getfield 57, 3) := by decide +kernel
theorem dX12_laid_198 : decode cX12_laid 198 = .ok (.invokestatic 427, 3) := by decide +kernel
theorem dX12_laid_201 : decode cX12_laid 201 = .ok (.aload_n 0, 1) := by decide +kernel
theorem dX12_laid_202 : decode cX12_laid 202 = .ok (.getfield 60, 3) := by decide +kernel
theorem dX12_laid_205 : decode cX12_laid 205 = .ok (.invokestatic 427, 3) := by decide +kernel
theorem dX12_laid_208 : decode cX12_laid 208 = .ok (.aload_n 0, 1) := by decide +kernel
theorem dX12_laid_209 : decode cX12_laid 209 = .ok (.getfield 63, 3) := by decide +kernel
theorem dX12_laid_212 : decode cX12_laid 212 = .ok (.invokestatic 427, 3) := by decide +kernel
theorem dX12_laid_215 : decode cX12_laid 215 = .ok (.aload_n 0, 1) := by decide +kernel
theorem dX12_laid_216 : decode cX12_laid 216 = .ok (.getfield 66, 3) := by decide +kernel
theorem dX12_laid_219 : decode cX12_laid 219 = .ok (.invokestatic 427, 3) := by decide +kernel
theorem dX12_laid_222 : decode cX12_laid 222 = .ok (.aload_n 0, 1) := by decide +kernel
theorem dX12_laid_223 : decode cX12_laid 223 = .ok (.getfield 69, 3) := by decide +kernel
theorem dX12_laid_226 : decode cX12_laid 226 = .ok (.invokestatic 427, 3) := by decide +kernel
theorem dX12_laid_229 : decode cX12_laid 229 = .ok (.aload_n 0, 1) := by decide +kernel
theorem dX12_laid_230 : decode cX12_laid 230 = .ok (.getfield 75, 3) := by decide +kernel
theorem dX12_laid_233 : decode cX12_laid 233 = .ok (.invokestatic 427, 3) := by decide +kernel
theorem dX12_laid_236 : decode cX12_laid 236 = .ok (.aload_n 0, 1) := by decide +kernel
theorem dX12_laid_237 : decode cX12_laid 237 = .ok (.getfield 78, 3) := by decide +kernel
theorem dX12_laid_240 : decode cX12_laid 240 = .ok (.invokestatic 427, 3) := by decide +kernel
theorem dX12_laid_243 : decode cX12_laid 243 = .ok (.aload_n 0, 1) := by decide +kernel
theorem dX12_laid_244 : decode cX12_laid 244 = .ok (.getfield 81, 3) := by decide +kernel
theorem dX12_laid_247 : decode cX12_laid 247 = .ok (.invokestatic 427, 3) := by decide +kernel
theorem dX12_laid_250 : decode cX12_laid 250 = .ok (.aload_n 0, 1) := by decide +kernel
theorem dX12_laid_251 : decode cX12_laid 251 = .ok (.getfield 84, 3) := by decide +kernel
theorem dX12_laid_254 : decode cX12_laid 254 = .ok (.invokestatic 427, 3) := by decide +kernel
theorem dX12_laid_257 : decode cX12_laid 257 = .ok (.aload_n 0, 1) := by decide +kernel
theorem dX12_laid_258 : decode cX12_laid 258 = .ok (.getfield 87, 3) := by decide +kernel
theorem dX12_laid_261 : decode cX12_laid 261 = .ok (.invokestatic 427, 3) := by decide +kernel
theorem dX12_laid_264 : decode cX12_laid 264 = .ok (.aload_n 0, 1) := by decide +kernel
theorem dX12_laid_265 : decode cX12_laid 265 = .ok (.getfield 94, 3) := by decide +kernel
theorem dX12_laid_268 : decode cX12_laid 268 = .ok (.invokestatic 427, 3) := by decide +kernel
theorem dX12_laid_271 : decode cX12_laid 271 = .ok (.aload_n 0, 1) := by decide +kernel
theorem dX12_laid_272 : decode cX12_laid 272 = .ok (.getfield 97, 3) := by decide +kernel
theorem dX12_laid_275 : decode cX12_laid 275 = .ok (.invokestatic 427, 3) := by decide +kernel
theorem dX12_laid_278 : decode cX12_laid 278 = .ok (.aload_n 0, 1) := by decide +kernel
theorem dX12_laid_279 : decode cX12_laid 279 = .ok (.getfield 72, 3) := by decide +kernel
theorem dX12_laid_282 : decode cX12_laid 282 = .ok (.invokestatic 427, 3) := by decide +kernel
theorem dX12_laid_285 : decode cX12_laid 285 = .ok (.aload_n 0, 1) := by decide +kernel
theorem dX12_laid_286 : decode cX12_laid 286 = .ok (.getfield 103, 3) := by decide +kernel
theorem dX12_laid_289 : decode cX12_laid 289 = .ok (.invokestatic 427, 3) := by decide +kernel
theorem dX12_laid_292 : decode cX12_laid 292 = .ok (.aload_n 0, 1) := by decide +kernel
theorem dX12_laid_293 : decode cX12_laid 293 = .ok (.getfield 106, 3) := by decide +kernel
theorem dX12_laid_296 : decode cX12_laid 296 = .ok (.invokestatic 427, 3) := by decide +kernel
theorem dX12_laid_299 : decode cX12_laid 299 = .ok (.iconst 0, 1) := by decide +kernel
theorem dX12_laid_300 : decode cX12_laid 300 = .ok (.istore_n 1, 1) := by decide +kernel
theorem dX12_laid_301 : decode cX12_laid 301 = .ok (.iload_n 1, 1) := by decide +kernel
theorem dX12_laid_302 : decode cX12_laid 302 = .ok (.bipush 10, 2) := by decide +kernel
theorem dX12_laid_304 : decode cX12_laid 304 = .ok (.if_icmp .ge 24, 3) := by decide +kernel
theorem dX12_laid_307 : decode cX12_laid 307 = .ok (.aload_n 0, 1) := by decide +kernel
theorem dX12_laid_308 : decode cX12_laid 308 = .ok (.getfield 90, 3) := by decide +kernel
theorem dX12_laid_311 : decode cX12_laid 311 = .ok (.iload_n 1, 1) := by decide +kernel
theorem dX12_laid_312 : decode cX12_laid 312 = .ok (.aload_n 0, 1) := by decide +kernel
theorem dX12_laid_313 : decode cX12_laid 313 = .ok (.getfield 90, 3) := by decide +kernel
theorem dX12_laid_316 : decode cX12_laid 316 = .ok (.bipush 10, 2) := by decide +kernel
theorem dX12_laid_318 : decode cX12_laid 318 = .ok (.iload_n 1, 1) := by decide +kernel
theorem dX12_laid_319 : decode cX12_laid 319 = .ok (.iadd, 1) := by decide +kernel
theorem dX12_laid_320 : decode cX12_laid 320 = .ok (.baload, 1) := by decide +kernel
theorem dX12_laid_321 : decode cX12_laid 321 = .ok (.bastore, 1) := by decide +kernel
theorem dX12_laid_322 : decode cX12_laid 322 = .ok (.iinc 1 1, 3) := by decide +kernel
theorem dX12_laid_325 : decode cX12_laid 325 = .ok (.goto (-24), 3) := by decide +kernel
theorem dX12_laid_328 : decode cX12_laid 328 = .ok (.iconst 0, 1) := by decide +kernel
theorem dX12_laid_329 : decode cX12_laid 329 = .ok (.istore_n 1, 1) := by decide +kernel
theorem dX12_laid_330 : decode cX12_laid 330 = .ok (.iload_n 1, 1) := by decide +kernel
theorem dX12_laid_331 : decode cX12_laid 331 = .ok (.sipush 200, 3) := by decide +kernel
theorem dX12_laid_334 : decode cX12_laid 334 = .ok (.if_icmp .ge 25, 3) := by decide +kernel
theorem dX12_laid_337 : decode cX12_laid 337 = .ok (.aload_n 0, 1) := by decide +kernel
theorem dX12_laid_338 : decode cX12_laid 338 = .ok (.getfield 100, 3) := by decide +kernel
theorem dX12_laid_341 : decode cX12_laid 341 = .ok (.iload_n 1, 1) := by decide +kernel
theorem dX12_laid_342 : decode cX12_laid 342 = .ok (.aload_n 0, 1) := by decide +kernel
theorem dX12_laid_343 : decode cX12_laid 343 = .ok (.getfield 100, 3) := by decide +kernel
theorem dX12_laid_346 : decode cX12_laid 346 = .ok (.sipush 200, 3) := by decide +kernel
theorem dX12_laid_349 : decode cX12_laid 349 = .ok (.iload_n 1, 1) := by decide +kernel
theorem dX12_laid_350 : decode cX12_laid 350 = .ok (.iadd, 1) := by decide +kernel
theorem dX12_laid_351 : decode cX12_laid 351 = .ok (.baload, 1) := by decide +kernel
theorem dX12_laid_352 : decode cX12_laid 352 = .ok (.bastore, 1) := by decide +kernel
theorem dX12_laid_353 : decode cX12_laid 353 = .ok (.iinc 1 1, 3) := by decide +kernel
theorem dX12_laid_356 : decode cX12_laid 356 = .ok (.goto (-26), 3) := by decide +kernel
theorem dX12_laid_359 : decode cX12_laid 359 = .ok (.aload_n 0, 1) := by decide +kernel
theorem dX12_laid_360 : decode cX12_laid 360 = .ok (.invokevirtual 431, 3) := by decide +kernel
theorem dX12_laid_363 : decode cX12_laid 363 = .ok (.return_, 1) := by decide +kernel
theorem dX12_fault_0 : decode cX12_fault 0 = .ok (.aload_n 0, 1) := by decide +kernel
theorem dX12_fault_1 : decode cX12_fault 1 = .ok (.iconst 0, 1) := by decide +kernel
theorem dX12_fault_2 : decode cX12_fault 2 = .ok (.putfield 195, 3) := by decide +kernel
theorem dX12_fault_5 : decode cX12_fault 5 = .ok (.iload_n 1, 1) := by decide +kernel
theorem dX12_fault_6 : decode cX12_fault 6 = .ok (.ifCond .ne 10, 3) := by decide +kernel
theorem dX12_fault_9 : decode cX12_fault 9 = .ok (.aload_n 0, 1) := by decide +kernel
theorem dX12_fault_10 : decode cX12_fault 10 = .ok (.getfield 385, 3) := by decide +kernel
theorem dX12_fault_13 : decode cX12_fault 13 = .ok (.goto 16, 3) := by decide +kernel
theorem dX12_fault_16 : decode cX12_fault 16 = .ok (.iload_n 1, 1) := by decide +kernel
theorem dX12_fault_17 : decode cX12_fault 17 = .ok (.iconst 1, 1) := by decide +kernel
theorem dX12_fault_18 : decode cX12_fault 18 = .ok (.if_icmp .ne 10, 3) := by decide +kernel
theorem dX12_fault_21 : decode cX12_fault 21 = .ok (.aload_n 0, 1) := by decide +kernel
theorem dX12_fault_22 : decode cX12_fault 22 = .ok (.getfield 109, 3) := by decide +kernel
theorem dX12_fault_25 : decode cX12_fault 25 = .ok (.goto 4, 3) := by decide +kernel
theorem dX12_fault_28 : decode cX12_fault 28 = .ok (.iconst (-1), 1) := by decide +kernel
theorem dX12_fault_29 : decode cX12_fault 29 = .ok (.ireturn, 1) := by decide +kernel
theorem dX12_named_0 : decode cX12_named 0 = .ok (.aload_n 0, 1) := by decide +kernel
theorem dX12_named_1 : decode cX12_named 1 = .ok (.iconst 0, 1) := by decide +kernel
theorem dX12_named_2 : decode cX12_named 2 = .ok (.putfield 195, 3) := by decide +kernel
theorem dX12_named_5 : decode cX12_named 5 = .ok (.aload_n 0, 1) := by decide +kernel
theorem dX12_named_6 : decode cX12_named 6 = .ok (.getfield 21, 3) := by decide +kernel
theorem dX12_named_9 : decode cX12_named 9 = .ok (.iconst 0, 1) := by decide +kernel
theorem dX12_named_10 : decode cX12_named 10 = .ok (.aload_n 0, 1) := by decide +kernel
theorem dX12_named_11 : decode cX12_named 11 = .ok (.getfield 394, 3) := by decide +kernel
theorem dX12_named_14 : decode cX12_named 14 = .ok (.iload_n 2, 1) := by decide +kernel
theorem dX12_named_15 : decode cX12_named 15 = .ok (.invokestatic 264, 3) := by decide +kernel
theorem dX12_named_18 : decode cX12_named 18 = .ok (.istore_n 3, 1) := by decide +kernel
theorem dX12_named_19 : decode cX12_named 19 = .ok (.aload_n 0, 1) := by decide +kernel
theorem dX12_named_20 : decode cX12_named 20 = .ok (.getfield 15, 3) := by decide +kernel
theorem dX12_named_23 : decode cX12_named 23 = .ok (.iconst 0, 1) := by decide +kernel
theorem dX12_named_24 : decode cX12_named 24 = .ok (.aload_n 0, 1) := by decide +kernel
theorem dX12_named_25 : decode cX12_named 25 = .ok (.getfield 391, 3) := by decide +kernel
theorem dX12_named_28 : decode cX12_named 28 = .ok (.iload_n 2, 1) := by decide +kernel
theorem dX12_named_29 : decode cX12_named 29 = .ok (.invokestatic 264, 3) := by decide +kernel
theorem dX12_named_32 : decode cX12_named 32 = .ok (.istore 4, 2) := by decide +kernel
theorem dX12_named_34 : decode cX12_named 34 = .ok (.iload_n 1, 1) := by decide +kernel
theorem dX12_named_35 : decode cX12_named 35 = .ok (.tableswitch 98 0 3 #[29, 56, 70, 84], 29) := by decide +kernel
theorem dX12_named_64 : decode cX12_named 64 = .ok (.iload 4, 2) := by decide +kernel
theorem dX12_named_66 : decode cX12_named 66 = .ok (.iconst (-1), 1) := by decide +kernel
theorem dX12_named_67 : decode cX12_named 67 = .ok (.if_icmp .eq 8, 3) := by decide +kernel
theorem dX12_named_70 : decode cX12_named 70 = .ok (.iload 4, 2) := by decide +kernel
theorem dX12_named_72 : decode cX12_named 72 = .ok (.goto 18, 3) := by decide +kernel
theorem dX12_named_75 : decode cX12_named 75 = .ok (.iload_n 3, 1) := by decide +kernel
theorem dX12_named_76 : decode cX12_named 76 = .ok (.iconst (-1), 1) := by decide +kernel
theorem dX12_named_77 : decode cX12_named 77 = .ok (.if_icmp .eq 12, 3) := by decide +kernel
theorem dX12_named_80 : decode cX12_named 80 = .ok (.aload_n 0, 1) := by decide +kernel
theorem dX12_named_81 : decode cX12_named 81 = .ok (.getfield 391, 3) := by decide +kernel
theorem dX12_named_84 : decode cX12_named 84 = .ok (.iload_n 3, 1) := by decide +kernel
theorem dX12_named_85 : decode cX12_named 85 = .ok (.iadd, 1) := by decide +kernel
theorem dX12_named_86 : decode cX12_named 86 = .ok (.goto 4, 3) := by decide +kernel
theorem dX12_named_89 : decode cX12_named 89 = .ok (.iconst (-1), 1) := by decide +kernel
theorem dX12_named_90 : decode cX12_named 90 = .ok (.ireturn, 1) := by decide +kernel
theorem dX12_named_91 : decode cX12_named 91 = .ok (.aload_n 0, 1) := by decide +kernel
theorem dX12_named_92 : decode cX12_named 92 = .ok (.getfield 30, 3) := by decide +kernel
theorem dX12_named_95 : decode cX12_named 95 = .ok (.iconst 0, 1) := by decide +kernel
theorem dX12_named_96 : decode cX12_named 96 = .ok (.aload_n 0, 1) := by decide +kernel
theorem dX12_named_97 : decode cX12_named 97 = .ok (.getfield 397, 3) := by decide +kernel
theorem dX12_named_100 : decode cX12_named 100 = .ok (.iload_n 2, 1) := by decide +kernel
theorem dX12_named_101 : decode cX12_named 101 = .ok (.invokestatic 264, 3) := by decide +kernel
theorem dX12_named_104 : decode cX12_named 104 = .ok (.ireturn, 1) := by decide +kernel
theorem dX12_named_105 : decode cX12_named 105 = .ok (.aload_n 0, 1) := by decide +kernel
theorem dX12_named_106 : decode cX12_named 106 = .ok (.getfield 54, 3) := by decide +kernel
theorem dX12_named_109 : decode cX12_named 109 = .ok (.iconst 0, 1) := by decide +kernel
theorem dX12_named_110 : decode cX12_named 110 = .ok (.aload_n 0, 1) := by decide +kernel
theorem dX12_named_111 : decode cX12_named 111 = .ok (.getfield 400, 3) := by decide +kernel
theorem dX12_named_114 : decode cX12_named 114 = .ok (.iload_n 2, 1) := by decide +kernel
theorem dX12_named_115 : decode cX12_named 115 = .ok (.invokestatic 264, 3) := by decide +kernel
theorem dX12_named_118 : decode cX12_named 118 = .ok (.ireturn, 1) := by decide +kernel
theorem dX12_named_119 : decode cX12_named 119 = .ok (.aload_n 0, 1) := by decide +kernel
theorem dX12_named_120 : decode cX12_named 120 = .ok (.getfield 66, 3) := by decide +kernel
theorem dX12_named_123 : decode cX12_named 123 = .ok (.iconst 0, 1) := by decide +kernel
theorem dX12_named_124 : decode cX12_named 124 = .ok (.aload_n 0, 1) := by decide +kernel
theorem dX12_named_125 : decode cX12_named 125 = .ok (.getfield 403, 3) := by decide +kernel
theorem dX12_named_128 : decode cX12_named 128 = .ok (.iload_n 2, 1) := by decide +kernel
theorem dX12_named_129 : decode cX12_named 129 = .ok (.invokestatic 264, 3) := by decide +kernel
theorem dX12_named_132 : decode cX12_named 132 = .ok (.ireturn, 1) := by decide +kernel
theorem dX12_named_133 : decode cX12_named 133 = .ok (.iconst (-1), 1) := by decide +kernel
theorem dX12_named_134 : decode cX12_named 134 = .ok (.ireturn, 1) := by decide +kernel
theorem dX12_isHouse_0 : decode cX12_isHouse 0 = .ok (.iload_n 1, 1) := by decide +kernel
theorem dX12_isHouse_1 : decode cX12_isHouse 1 = .ok (.ifCond .lt 15, 3) := by decide +kernel
theorem dX12_isHouse_4 : decode cX12_isHouse 4 = .ok (.iload_n 1, 1) := by decide +kernel
theorem dX12_isHouse_5 : decode cX12_isHouse 5 = .ok (.aload_n 0, 1) := by decide +kernel
theorem dX12_isHouse_6 : decode cX12_isHouse 6 = .ok (.getfield 403, 3) := by decide +kernel
theorem dX12_isHouse_9 : decode cX12_isHouse 9 = .ok (.if_icmp .ge 7, 3) := by decide +kernel
theorem dX12_isHouse_12 : decode cX12_isHouse 12 = .ok (.iconst 1, 1) := by decide +kernel
theorem dX12_isHouse_13 : decode cX12_isHouse 13 = .ok (.goto 4, 3) := by decide +kernel
theorem dX12_isHouse_16 : decode cX12_isHouse 16 = .ok (.iconst 0, 1) := by decide +kernel
theorem dX12_isHouse_17 : decode cX12_isHouse 17 = .ok (.ireturn, 1) := by decide +kernel
theorem dX12_isFront_0 : decode cX12_isFront 0 = .ok (.iload_n 1, 1) := by decide +kernel
theorem dX12_isFront_1 : decode cX12_isFront 1 = .ok (.ifCond .lt 15, 3) := by decide +kernel
theorem dX12_isFront_4 : decode cX12_isFront 4 = .ok (.iload_n 1, 1) := by decide +kernel
theorem dX12_isFront_5 : decode cX12_isFront 5 = .ok (.aload_n 0, 1) := by decide +kernel
theorem dX12_isFront_6 : decode cX12_isFront 6 = .ok (.getfield 397, 3) := by decide +kernel
theorem dX12_isFront_9 : decode cX12_isFront 9 = .ok (.if_icmp .ge 7, 3) := by decide +kernel
theorem dX12_isFront_12 : decode cX12_isFront 12 = .ok (.iconst 1, 1) := by decide +kernel
theorem dX12_isFront_13 : decode cX12_isFront 13 = .ok (.goto 4, 3) := by decide +kernel
theorem dX12_isFront_16 : decode cX12_isFront 16 = .ok (.iconst 0, 1) := by decide +kernel
theorem dX12_isFront_17 : decode cX12_isFront 17 = .ok (.ireturn, 1) := by decide +kernel
theorem dX12_isMan_0 : decode cX12_isMan 0 = .ok (.iload_n 1, 1) := by decide +kernel
theorem dX12_isMan_1 : decode cX12_isMan 1 = .ok (.ifCond .lt 15, 3) := by decide +kernel
theorem dX12_isMan_4 : decode cX12_isMan 4 = .ok (.iload_n 1, 1) := by decide +kernel
theorem dX12_isMan_5 : decode cX12_isMan 5 = .ok (.aload_n 0, 1) := by decide +kernel
theorem dX12_isMan_6 : decode cX12_isMan 6 = .ok (.getfield 400, 3) := by decide +kernel
theorem dX12_isMan_9 : decode cX12_isMan 9 = .ok (.if_icmp .ge 7, 3) := by decide +kernel
theorem dX12_isMan_12 : decode cX12_isMan 12 = .ok (.iconst 1, 1) := by decide +kernel
theorem dX12_isMan_13 : decode cX12_isMan 13 = .ok (.goto 4, 3) := by decide +kernel
theorem dX12_isMan_16 : decode cX12_isMan 16 = .ok (.iconst 0, 1) := by decide +kernel
theorem dX12_isMan_17 : decode cX12_isMan 17 = .ok (.ireturn, 1) := by decide +kernel
theorem dX12_look_0 : decode cX12_look 0 = .ok (.aload_n 0, 1) := by decide +kernel
theorem dX12_look_1 : decode cX12_look 1 = .ok (.aload_n 0, 1) := by decide +kernel
theorem dX12_look_2 : decode cX12_look 2 = .ok (.iload_n 1, 1) := by decide +kernel
theorem dX12_look_3 : decode cX12_look 3 = .ok (.invokevirtual 434, 3) := by decide +kernel
theorem dX12_look_6 : decode cX12_look 6 = .ok (.ifCond .ne 7, 3) := by decide +kernel
theorem dX12_look_9 : decode cX12_look 9 = .ok (.iconst 1, 1) := by decide +kernel
theorem dX12_look_10 : decode cX12_look 10 = .ok (.goto 18, 3) := by decide +kernel
theorem dX12_look_13 : decode cX12_look 13 = .ok (.iload_n 2, 1) := by decide +kernel
theorem dX12_look_14 : decode cX12_look 14 = .ok (.ifCond .lt 9, 3) := by decide +kernel
theorem dX12_look_17 : decode cX12_look 17 = .ok (.iload_n 2, 1) := by decide +kernel
theorem dX12_look_18 : decode cX12_look 18 = .ok (.bipush 8, 2) := by decide +kernel
theorem dX12_look_20 : decode cX12_look 20 = .ok (.if_icmp .le 7, 3) := by decide +kernel
theorem dX12_look_23 : decode cX12_look 23 = .ok (.iconst 2, 1) := by decide +kernel
theorem dX12_look_24 : decode cX12_look 24 = .ok (.goto 4, 3) := by decide +kernel
theorem dX12_look_27 : decode cX12_look 27 = .ok (.iconst 0, 1) := by decide +kernel
theorem dX12_look_28 : decode cX12_look 28 = .ok (.putfield 195, 3) := by decide +kernel
theorem dX12_look_31 : decode cX12_look 31 = .ok (.aload_n 0, 1) := by decide +kernel
theorem dX12_look_32 : decode cX12_look 32 = .ok (.getfield 195, 3) := by decide +kernel
theorem dX12_look_35 : decode cX12_look 35 = .ok (.ifCond .eq 5, 3) := by decide +kernel
theorem dX12_look_38 : decode cX12_look 38 = .ok (.iconst 0, 1) := by decide +kernel
theorem dX12_look_39 : decode cX12_look 39 = .ok (.ireturn, 1) := by decide +kernel
theorem dX12_look_40 : decode cX12_look 40 = .ok (.iload_n 2, 1) := by decide +kernel
theorem dX12_look_41 : decode cX12_look 41 = .ok (.tableswitch 111 0 7 #[47, 54, 61, 68, 75, 82, 89, 96], 47) := by decide +kernel
theorem dX12_look_88 : decode cX12_look 88 = .ok (.aload_n 0, 1) := by decide +kernel
theorem dX12_look_89 : decode cX12_look 89 = .ok (.getfield 69, 3) := by decide +kernel
theorem dX12_look_92 : decode cX12_look 92 = .ok (.iload_n 1, 1) := by decide +kernel
theorem dX12_look_93 : decode cX12_look 93 = .ok (.iaload, 1) := by decide +kernel
theorem dX12_look_94 : decode cX12_look 94 = .ok (.ireturn, 1) := by decide +kernel
theorem dX12_look_95 : decode cX12_look 95 = .ok (.aload_n 0, 1) := by decide +kernel
theorem dX12_look_96 : decode cX12_look 96 = .ok (.getfield 72, 3) := by decide +kernel
theorem dX12_look_99 : decode cX12_look 99 = .ok (.iload_n 1, 1) := by decide +kernel
theorem dX12_look_100 : decode cX12_look 100 = .ok (.iaload, 1) := by decide +kernel
theorem dX12_look_101 : decode cX12_look 101 = .ok (.ireturn, 1) := by decide +kernel
theorem dX12_look_102 : decode cX12_look 102 = .ok (.aload_n 0, 1) := by decide +kernel
theorem dX12_look_103 : decode cX12_look 103 = .ok (.getfield 75, 3) := by decide +kernel
theorem dX12_look_106 : decode cX12_look 106 = .ok (.iload_n 1, 1) := by decide +kernel
theorem dX12_look_107 : decode cX12_look 107 = .ok (.iaload, 1) := by decide +kernel
theorem dX12_look_108 : decode cX12_look 108 = .ok (.ireturn, 1) := by decide +kernel
theorem dX12_look_109 : decode cX12_look 109 = .ok (.aload_n 0, 1) := by decide +kernel
theorem dX12_look_110 : decode cX12_look 110 = .ok (.getfield 78, 3) := by decide +kernel
theorem dX12_look_113 : decode cX12_look 113 = .ok (.iload_n 1, 1) := by decide +kernel
theorem dX12_look_114 : decode cX12_look 114 = .ok (.iaload, 1) := by decide +kernel
theorem dX12_look_115 : decode cX12_look 115 = .ok (.ireturn, 1) := by decide +kernel
theorem dX12_look_116 : decode cX12_look 116 = .ok (.aload_n 0, 1) := by decide +kernel
theorem dX12_look_117 : decode cX12_look 117 = .ok (.getfield 81, 3) := by decide +kernel
theorem dX12_look_120 : decode cX12_look 120 = .ok (.iload_n 1, 1) := by decide +kernel
theorem dX12_look_121 : decode cX12_look 121 = .ok (.iaload, 1) := by decide +kernel
theorem dX12_look_122 : decode cX12_look 122 = .ok (.ireturn, 1) := by decide +kernel
theorem dX12_look_123 : decode cX12_look 123 = .ok (.aload_n 0, 1) := by decide +kernel
theorem dX12_look_124 : decode cX12_look 124 = .ok (.getfield 84, 3) := by decide +kernel
theorem dX12_look_127 : decode cX12_look 127 = .ok (.iload_n 1, 1) := by decide +kernel
theorem dX12_look_128 : decode cX12_look 128 = .ok (.iaload, 1) := by decide +kernel
theorem dX12_look_129 : decode cX12_look 129 = .ok (.ireturn, 1) := by decide +kernel
theorem dX12_look_130 : decode cX12_look 130 = .ok (.aload_n 0, 1) := by decide +kernel
theorem dX12_look_131 : decode cX12_look 131 = .ok (.getfield 87, 3) := by decide +kernel
theorem dX12_look_134 : decode cX12_look 134 = .ok (.iload_n 1, 1) := by decide +kernel
theorem dX12_look_135 : decode cX12_look 135 = .ok (.iaload, 1) := by decide +kernel
theorem dX12_look_136 : decode cX12_look 136 = .ok (.ireturn, 1) := by decide +kernel
theorem dX12_look_137 : decode cX12_look 137 = .ok (.aload_n 0, 1) := by decide +kernel
theorem dX12_look_138 : decode cX12_look 138 = .ok (.getfield 90, 3) := by decide +kernel
theorem dX12_look_141 : decode cX12_look 141 = .ok (.iload_n 1, 1) := by decide +kernel
theorem dX12_look_142 : decode cX12_look 142 = .ok (.baload, 1) := by decide +kernel
theorem dX12_look_143 : decode cX12_look 143 = .ok (.ifCond .eq 7, 3) := by decide +kernel
theorem dX12_look_146 : decode cX12_look 146 = .ok (.iconst 1, 1) := by decide +kernel
theorem dX12_look_147 : decode cX12_look 147 = .ok (.goto 4, 3) := by decide +kernel
theorem dX12_look_150 : decode cX12_look 150 = .ok (.iconst 0, 1) := by decide +kernel
theorem dX12_look_151 : decode cX12_look 151 = .ok (.ireturn, 1) := by decide +kernel
theorem dX12_look_152 : decode cX12_look 152 = .ok (.aload_n 0, 1) := by decide +kernel
theorem dX12_look_153 : decode cX12_look 153 = .ok (.getfield 97, 3) := by decide +kernel
theorem dX12_look_156 : decode cX12_look 156 = .ok (.iload_n 1, 1) := by decide +kernel
theorem dX12_look_157 : decode cX12_look 157 = .ok (.iaload, 1) := by decide +kernel
theorem dX12_look_158 : decode cX12_look 158 = .ok (.ireturn, 1) := by decide +kernel
theorem dX12_front_0 : decode cX12_front 0 = .ok (.aload_n 0, 1) := by decide +kernel
theorem dX12_front_1 : decode cX12_front 1 = .ok (.iconst 0, 1) := by decide +kernel
theorem dX12_front_2 : decode cX12_front 2 = .ok (.putfield 195, 3) := by decide +kernel
theorem dX12_front_5 : decode cX12_front 5 = .ok (.aload_n 0, 1) := by decide +kernel
theorem dX12_front_6 : decode cX12_front 6 = .ok (.iload_n 1, 1) := by decide +kernel
theorem dX12_front_7 : decode cX12_front 7 = .ok (.invokevirtual 437, 3) := by decide +kernel
theorem dX12_front_10 : decode cX12_front 10 = .ok (.ifCond .ne 5, 3) := by decide +kernel
theorem dX12_front_13 : decode cX12_front 13 = .ok (.iconst (-1), 1) := by decide +kernel
theorem dX12_front_14 : decode cX12_front 14 = .ok (.ireturn, 1) := by decide +kernel
theorem dX12_front_15 : decode cX12_front 15 = .ok (.iload_n 2, 1) := by decide +kernel
theorem dX12_front_16 : decode cX12_front 16 = .ok (.tableswitch 71 0 4 #[36, 43, 50, 57, 64], 36) := by decide +kernel
theorem dX12_front_52 : decode cX12_front 52 = .ok (.aload_n 0, 1) := by decide +kernel
theorem dX12_front_53 : decode cX12_front 53 = .ok (.getfield 33, 3) := by decide +kernel
theorem dX12_front_56 : decode cX12_front 56 = .ok (.iload_n 1, 1) := by decide +kernel
theorem dX12_front_57 : decode cX12_front 57 = .ok (.iaload, 1) := by decide +kernel
theorem dX12_front_58 : decode cX12_front 58 = .ok (.ireturn, 1) := by decide +kernel
theorem dX12_front_59 : decode cX12_front 59 = .ok (.aload_n 0, 1) := by decide +kernel
theorem dX12_front_60 : decode cX12_front 60 = .ok (.getfield 36, 3) := by decide +kernel
theorem dX12_front_63 : decode cX12_front 63 = .ok (.iload_n 1, 1) := by decide +kernel
theorem dX12_front_64 : decode cX12_front 64 = .ok (.iaload, 1) := by decide +kernel
theorem dX12_front_65 : decode cX12_front 65 = .ok (.ireturn, 1) := by decide +kernel
theorem dX12_front_66 : decode cX12_front 66 = .ok (.aload_n 0, 1) := by decide +kernel
theorem dX12_front_67 : decode cX12_front 67 = .ok (.getfield 45, 3) := by decide +kernel
theorem dX12_front_70 : decode cX12_front 70 = .ok (.iload_n 1, 1) := by decide +kernel
theorem dX12_front_71 : decode cX12_front 71 = .ok (.iaload, 1) := by decide +kernel
theorem dX12_front_72 : decode cX12_front 72 = .ok (.ireturn, 1) := by decide +kernel
theorem dX12_front_73 : decode cX12_front 73 = .ok (.aload_n 0, 1) := by decide +kernel
theorem dX12_front_74 : decode cX12_front 74 = .ok (.getfield 39, 3) := by decide +kernel
theorem dX12_front_77 : decode cX12_front 77 = .ok (.iload_n 1, 1) := by decide +kernel
theorem dX12_front_78 : decode cX12_front 78 = .ok (.iaload, 1) := by decide +kernel
theorem dX12_front_79 : decode cX12_front 79 = .ok (.ireturn, 1) := by decide +kernel
theorem dX12_front_80 : decode cX12_front 80 = .ok (.aload_n 0, 1) := by decide +kernel
theorem dX12_front_81 : decode cX12_front 81 = .ok (.getfield 42, 3) := by decide +kernel
theorem dX12_front_84 : decode cX12_front 84 = .ok (.iload_n 1, 1) := by decide +kernel
theorem dX12_front_85 : decode cX12_front 85 = .ok (.iaload, 1) := by decide +kernel
theorem dX12_front_86 : decode cX12_front 86 = .ok (.ireturn, 1) := by decide +kernel
theorem dX12_front_87 : decode cX12_front 87 = .ok (.iconst (-1), 1) := by decide +kernel
theorem dX12_front_88 : decode cX12_front 88 = .ok (.ireturn, 1) := by decide +kernel
theorem dX12_pane_0 : decode cX12_pane 0 = .ok (.aload_n 0, 1) := by decide +kernel
theorem dX12_pane_1 : decode cX12_pane 1 = .ok (.iconst 0, 1) := by decide +kernel
theorem dX12_pane_2 : decode cX12_pane 2 = .ok (.putfield 195, 3) := by decide +kernel
theorem dX12_pane_5 : decode cX12_pane 5 = .ok (.aload_n 0, 1) := by decide +kernel
theorem dX12_pane_6 : decode cX12_pane 6 = .ok (.iload_n 1, 1) := by decide +kernel
theorem dX12_pane_7 : decode cX12_pane 7 = .ok (.invokevirtual 437, 3) := by decide +kernel
theorem dX12_pane_10 : decode cX12_pane 10 = .ok (.ifCond .eq 26, 3) := by decide +kernel
theorem dX12_pane_13 : decode cX12_pane 13 = .ok (.iload_n 2, 1) := by decide +kernel
theorem dX12_pane_14 : decode cX12_pane 14 = .ok (.ifCond .lt 22, 3) := by decide +kernel
theorem dX12_pane_17 : decode cX12_pane 17 = .ok (.iload_n 2, 1) := by decide +kernel
theorem dX12_pane_18 : decode cX12_pane 18 = .ok (.aload_n 0, 1) := by decide +kernel
theorem dX12_pane_19 : decode cX12_pane 19 = .ok (.getfield 45, 3) := by decide +kernel
theorem dX12_pane_22 : decode cX12_pane 22 = .ok (.iload_n 1, 1) := by decide +kernel
theorem dX12_pane_23 : decode cX12_pane 23 = .ok (.iaload, 1) := by decide +kernel
theorem dX12_pane_24 : decode cX12_pane 24 = .ok (.if_icmp .ge 12, 3) := by decide +kernel
theorem dX12_pane_27 : decode cX12_pane 27 = .ok (.iload_n 3, 1) := by decide +kernel
theorem dX12_pane_28 : decode cX12_pane 28 = .ok (.ifCond .lt 8, 3) := by decide +kernel
theorem dX12_pane_31 : decode cX12_pane 31 = .ok (.iload_n 3, 1) := by decide +kernel
theorem dX12_pane_32 : decode cX12_pane 32 = .ok (.iconst 1, 1) := by decide +kernel
theorem dX12_pane_33 : decode cX12_pane 33 = .ok (.if_icmp .le 5, 3) := by decide +kernel
theorem dX12_pane_36 : decode cX12_pane 36 = .ok (.iconst (-1), 1) := by decide +kernel
theorem dX12_pane_37 : decode cX12_pane 37 = .ok (.ireturn, 1) := by decide +kernel
theorem dX12_pane_38 : decode cX12_pane 38 = .ok (.iload_n 3, 1) := by decide +kernel
theorem dX12_pane_39 : decode cX12_pane 39 = .ok (.ifCond .ne 17, 3) := by decide +kernel
theorem dX12_pane_42 : decode cX12_pane 42 = .ok (.aload_n 0, 1) := by decide +kernel
theorem dX12_pane_43 : decode cX12_pane 43 = .ok (.getfield 48, 3) := by decide +kernel
theorem dX12_pane_46 : decode cX12_pane 46 = .ok (.bipush 12, 2) := by decide +kernel
theorem dX12_pane_48 : decode cX12_pane 48 = .ok (.iload_n 1, 1) := by decide +kernel
theorem dX12_pane_49 : decode cX12_pane 49 = .ok (.imul, 1) := by decide +kernel
theorem dX12_pane_50 : decode cX12_pane 50 = .ok (.iload_n 2, 1) := by decide +kernel
theorem dX12_pane_51 : decode cX12_pane 51 = .ok (.iadd, 1) := by decide +kernel
theorem dX12_pane_52 : decode cX12_pane 52 = .ok (.iaload, 1) := by decide +kernel
theorem dX12_pane_53 : decode cX12_pane 53 = .ok (.goto 14, 3) := by decide +kernel
theorem dX12_pane_56 : decode cX12_pane 56 = .ok (.aload_n 0, 1) := by decide +kernel
theorem dX12_pane_57 : decode cX12_pane 57 = .ok (.getfield 51, 3) := by decide +kernel
theorem dX12_pane_60 : decode cX12_pane 60 = .ok (.bipush 12, 2) := by decide +kernel
theorem dX12_pane_62 : decode cX12_pane 62 = .ok (.iload_n 1, 1) := by decide +kernel
theorem dX12_pane_63 : decode cX12_pane 63 = .ok (.imul, 1) := by decide +kernel
theorem dX12_pane_64 : decode cX12_pane 64 = .ok (.iload_n 2, 1) := by decide +kernel
theorem dX12_pane_65 : decode cX12_pane 65 = .ok (.iadd, 1) := by decide +kernel
theorem dX12_pane_66 : decode cX12_pane 66 = .ok (.iaload, 1) := by decide +kernel
theorem dX12_pane_67 : decode cX12_pane 67 = .ok (.ireturn, 1) := by decide +kernel
theorem dX12_root_0 : decode cX12_root 0 = .ok (.iconst 0, 1) := by decide +kernel
theorem dX12_root_1 : decode cX12_root 1 = .ok (.istore_n 1, 1) := by decide +kernel
theorem dX12_root_2 : decode cX12_root 2 = .ok (.iload_n 1, 1) := by decide +kernel
theorem dX12_root_3 : decode cX12_root 3 = .ok (.iconst 1, 1) := by decide +kernel
theorem dX12_root_4 : decode cX12_root 4 = .ok (.iadd, 1) := by decide +kernel
theorem dX12_root_5 : decode cX12_root 5 = .ok (.iload_n 1, 1) := by decide +kernel
theorem dX12_root_6 : decode cX12_root 6 = .ok (.iconst 1, 1) := by decide +kernel
theorem dX12_root_7 : decode cX12_root 7 = .ok (.iadd, 1) := by decide +kernel
theorem dX12_root_8 : decode cX12_root 8 = .ok (.imul, 1) := by decide +kernel
theorem dX12_root_9 : decode cX12_root 9 = .ok (.iload_n 0, 1) := by decide +kernel
theorem dX12_root_10 : decode cX12_root 10 = .ok (.if_icmp .gt 9, 3) := by decide +kernel
theorem dX12_root_13 : decode cX12_root 13 = .ok (.iinc 1 1, 3) := by decide +kernel
theorem dX12_root_16 : decode cX12_root 16 = .ok (.goto (-14), 3) := by decide +kernel
theorem dX12_root_19 : decode cX12_root 19 = .ok (.iload_n 1, 1) := by decide +kernel
theorem dX12_root_20 : decode cX12_root 20 = .ok (.ireturn, 1) := by decide +kernel
theorem dX12_isLadder_0 : decode cX12_isLadder 0 = .ok (.iload_n 1, 1) := by decide +kernel
theorem dX12_isLadder_1 : decode cX12_isLadder 1 = .ok (.aload_n 0, 1) := by decide +kernel
theorem dX12_isLadder_2 : decode cX12_isLadder 2 = .ok (.getfield 391, 3) := by decide +kernel
theorem dX12_isLadder_5 : decode cX12_isLadder 5 = .ok (.if_icmp .ge 7, 3) := by decide +kernel
theorem dX12_isLadder_8 : decode cX12_isLadder 8 = .ok (.iconst 1, 1) := by decide +kernel
theorem dX12_isLadder_9 : decode cX12_isLadder 9 = .ok (.goto 4, 3) := by decide +kernel
theorem dX12_isLadder_12 : decode cX12_isLadder 12 = .ok (.iconst 0, 1) := by decide +kernel
theorem dX12_isLadder_13 : decode cX12_isLadder 13 = .ok (.ireturn, 1) := by decide +kernel
theorem dX12_topOf_0 : decode cX12_topOf 0 = .ok (.aload_n 0, 1) := by decide +kernel
theorem dX12_topOf_1 : decode cX12_topOf 1 = .ok (.getfield 39, 3) := by decide +kernel
theorem dX12_topOf_4 : decode cX12_topOf 4 = .ok (.iload_n 1, 1) := by decide +kernel
theorem dX12_topOf_5 : decode cX12_topOf 5 = .ok (.iaload, 1) := by decide +kernel
theorem dX12_topOf_6 : decode cX12_topOf 6 = .ok (.iload_n 3, 1) := by decide +kernel
theorem dX12_topOf_7 : decode cX12_topOf 7 = .ok (.ishr, 1) := by decide +kernel
theorem dX12_topOf_8 : decode cX12_topOf 8 = .ok (.iconst 1, 1) := by decide +kernel
theorem dX12_topOf_9 : decode cX12_topOf 9 = .ok (.iand, 1) := by decide +kernel
theorem dX12_topOf_10 : decode cX12_topOf 10 = .ok (.iconst 1, 1) := by decide +kernel
theorem dX12_topOf_11 : decode cX12_topOf 11 = .ok (.if_icmp .ne 5, 3) := by decide +kernel
theorem dX12_topOf_14 : decode cX12_topOf 14 = .ok (.iconst (-1), 1) := by decide +kernel
theorem dX12_topOf_15 : decode cX12_topOf 15 = .ok (.ireturn, 1) := by decide +kernel
theorem dX12_topOf_16 : decode cX12_topOf 16 = .ok (.aload_n 0, 1) := by decide +kernel
theorem dX12_topOf_17 : decode cX12_topOf 17 = .ok (.iload_n 2, 1) := by decide +kernel
theorem dX12_topOf_18 : decode cX12_topOf 18 = .ok (.invokevirtual 440, 3) := by decide +kernel
theorem dX12_topOf_21 : decode cX12_topOf 21 = .ok (.ifCond .eq 12, 3) := by decide +kernel
theorem dX12_topOf_24 : decode cX12_topOf 24 = .ok (.aload_n 0, 1) := by decide +kernel
theorem dX12_topOf_25 : decode cX12_topOf 25 = .ok (.getfield 18, 3) := by decide +kernel
theorem dX12_topOf_28 : decode cX12_topOf 28 = .ok (.iload_n 2, 1) := by decide +kernel
theorem dX12_topOf_29 : decode cX12_topOf 29 = .ok (.iaload, 1) := by decide +kernel
theorem dX12_topOf_30 : decode cX12_topOf 30 = .ok (.goto 14, 3) := by decide +kernel
theorem dX12_topOf_33 : decode cX12_topOf 33 = .ok (.aload_n 0, 1) := by decide +kernel
theorem dX12_topOf_34 : decode cX12_topOf 34 = .ok (.getfield 24, 3) := by decide +kernel
theorem dX12_topOf_37 : decode cX12_topOf 37 = .ok (.iload_n 2, 1) := by decide +kernel
theorem dX12_topOf_38 : decode cX12_topOf 38 = .ok (.aload_n 0, 1) := by decide +kernel
theorem dX12_topOf_39 : decode cX12_topOf 39 = .ok (.getfield 391, 3) := by decide +kernel
theorem dX12_topOf_42 : decode cX12_topOf 42 = .ok (.isub, 1) := by decide +kernel
theorem dX12_topOf_43 : decode cX12_topOf 43 = .ok (.iaload, 1) := by decide +kernel
theorem dX12_topOf_44 : decode cX12_topOf 44 = .ok (.istore 6, 2) := by decide +kernel
theorem dX12_topOf_46 : decode cX12_topOf 46 = .ok (.iload 4, 2) := by decide +kernel
theorem dX12_topOf_48 : decode cX12_topOf 48 = .ok (.iload 6, 2) := by decide +kernel
theorem dX12_topOf_50 : decode cX12_topOf 50 = .ok (.if_icmp .lt 5, 3) := by decide +kernel
theorem dX12_topOf_53 : decode cX12_topOf 53 = .ok (.iconst (-1), 1) := by decide +kernel
theorem dX12_topOf_54 : decode cX12_topOf 54 = .ok (.ireturn, 1) := by decide +kernel
theorem dX12_topOf_55 : decode cX12_topOf 55 = .ok (.iload 6, 2) := by decide +kernel
theorem dX12_topOf_57 : decode cX12_topOf 57 = .ok (.iload 6, 2) := by decide +kernel
theorem dX12_topOf_59 : decode cX12_topOf 59 = .ok (.imul, 1) := by decide +kernel
theorem dX12_topOf_60 : decode cX12_topOf 60 = .ok (.iload 4, 2) := by decide +kernel
theorem dX12_topOf_62 : decode cX12_topOf 62 = .ok (.iload 4, 2) := by decide +kernel
theorem dX12_topOf_64 : decode cX12_topOf 64 = .ok (.imul, 1) := by decide +kernel
theorem dX12_topOf_65 : decode cX12_topOf 65 = .ok (.isub, 1) := by decide +kernel
theorem dX12_topOf_66 : decode cX12_topOf 66 = .ok (.invokestatic 443, 3) := by decide +kernel
theorem dX12_topOf_69 : decode cX12_topOf 69 = .ok (.istore 7, 2) := by decide +kernel
theorem dX12_topOf_71 : decode cX12_topOf 71 = .ok (.aload_n 0, 1) := by decide +kernel
theorem dX12_topOf_72 : decode cX12_topOf 72 = .ok (.iload_n 2, 1) := by decide +kernel
theorem dX12_topOf_73 : decode cX12_topOf 73 = .ok (.invokevirtual 440, 3) := by decide +kernel
theorem dX12_topOf_76 : decode cX12_topOf 76 = .ok (.ifCond .ne 28, 3) := by decide +kernel
theorem dX12_topOf_79 : decode cX12_topOf 79 = .ok (.iconst 0, 1) := by decide +kernel
theorem dX12_topOf_80 : decode cX12_topOf 80 = .ok (.iload 7, 2) := by decide +kernel
theorem dX12_topOf_82 : decode cX12_topOf 82 = .ok (.iload 6, 2) := by decide +kernel
theorem dX12_topOf_84 : decode cX12_topOf 84 = .ok (.aload_n 0, 1) := by decide +kernel
theorem dX12_topOf_85 : decode cX12_topOf 85 = .ok (.getfield 27, 3) := by decide +kernel
theorem dX12_topOf_88 : decode cX12_topOf 88 = .ok (.iload_n 2, 1) := by decide +kernel
theorem dX12_topOf_89 : decode cX12_topOf 89 = .ok (.aload_n 0, 1) := by decide +kernel
theorem dX12_topOf_90 : decode cX12_topOf 90 = .ok (.getfield 391, 3) := by decide +kernel
theorem dX12_topOf_93 : decode cX12_topOf 93 = .ok (.isub, 1) := by decide +kernel
theorem dX12_topOf_94 : decode cX12_topOf 94 = .ok (.iaload, 1) := by decide +kernel
theorem dX12_topOf_95 : decode cX12_topOf 95 = .ok (.imul, 1) := by decide +kernel
theorem dX12_topOf_96 : decode cX12_topOf 96 = .ok (.bipush 10, 2) := by decide +kernel
theorem dX12_topOf_98 : decode cX12_topOf 98 = .ok (.idiv, 1) := by decide +kernel
theorem dX12_topOf_99 : decode cX12_topOf 99 = .ok (.isub, 1) := by decide +kernel
theorem dX12_topOf_100 : decode cX12_topOf 100 = .ok (.invokestatic 447, 3) := by decide +kernel
theorem dX12_topOf_103 : decode cX12_topOf 103 = .ok (.ireturn, 1) := by decide +kernel
theorem dX12_topOf_104 : decode cX12_topOf 104 = .ok (.iload 7, 2) := by decide +kernel
theorem dX12_topOf_106 : decode cX12_topOf 106 = .ok (.iconst 3, 1) := by decide +kernel
theorem dX12_topOf_107 : decode cX12_topOf 107 = .ok (.iload 4, 2) := by decide +kernel
theorem dX12_topOf_109 : decode cX12_topOf 109 = .ok (.imul, 1) := by decide +kernel
theorem dX12_topOf_110 : decode cX12_topOf 110 = .ok (.if_icmp .lt 31, 3) := by decide +kernel
theorem dX12_topOf_113 : decode cX12_topOf 113 = .ok (.iload 7, 2) := by decide +kernel
theorem dX12_topOf_115 : decode cX12_topOf 115 = .ok (.iconst 5, 1) := by decide +kernel
theorem dX12_topOf_116 : decode cX12_topOf 116 = .ok (.iload 4, 2) := by decide +kernel
theorem dX12_topOf_118 : decode cX12_topOf 118 = .ok (.imul, 1) := by decide +kernel
theorem dX12_topOf_119 : decode cX12_topOf 119 = .ok (.if_icmp .gt 22, 3) := by decide +kernel
theorem dX12_topOf_122 : decode cX12_topOf 122 = .ok (.aload_n 0, 1) := by decide +kernel
theorem dX12_topOf_123 : decode cX12_topOf 123 = .ok (.getfield 42, 3) := by decide +kernel
theorem dX12_topOf_126 : decode cX12_topOf 126 = .ok (.iload_n 1, 1) := by decide +kernel
theorem dX12_topOf_127 : decode cX12_topOf 127 = .ok (.iaload, 1) := by decide +kernel
theorem dX12_topOf_128 : decode cX12_topOf 128 = .ok (.iload_n 3, 1) := by decide +kernel
theorem dX12_topOf_129 : decode cX12_topOf 129 = .ok (.ishr, 1) := by decide +kernel
theorem dX12_topOf_130 : decode cX12_topOf 130 = .ok (.iconst 1, 1) := by decide +kernel
theorem dX12_topOf_131 : decode cX12_topOf 131 = .ok (.iand, 1) := by decide +kernel
theorem dX12_topOf_132 : decode cX12_topOf 132 = .ok (.iconst 1, 1) := by decide +kernel
theorem dX12_topOf_133 : decode cX12_topOf 133 = .ok (.if_icmp .ne 12, 3) := by decide +kernel
theorem dX12_topOf_136 : decode cX12_topOf 136 = .ok (.iload 5, 2) := by decide +kernel
theorem dX12_topOf_138 : decode cX12_topOf 138 = .ok (.ifCond .ne 7, 3) := by decide +kernel
theorem dX12_topOf_141 : decode cX12_topOf 141 = .ok (.iconst (-1), 1) := by decide +kernel
theorem dX12_topOf_142 : decode cX12_topOf 142 = .ok (.goto 5, 3) := by decide +kernel
theorem dX12_topOf_145 : decode cX12_topOf 145 = .ok (.iload 7, 2) := by decide +kernel
theorem dX12_topOf_147 : decode cX12_topOf 147 = .ok (.ireturn, 1) := by decide +kernel
theorem dX12_coversOf_0 : decode cX12_coversOf 0 = .ok (.aload_n 0, 1) := by decide +kernel
theorem dX12_coversOf_1 : decode cX12_coversOf 1 = .ok (.iload_n 1, 1) := by decide +kernel
theorem dX12_coversOf_2 : decode cX12_coversOf 2 = .ok (.iload_n 2, 1) := by decide +kernel
theorem dX12_coversOf_3 : decode cX12_coversOf 3 = .ok (.iload_n 3, 1) := by decide +kernel
theorem dX12_coversOf_4 : decode cX12_coversOf 4 = .ok (.iload 4, 2) := by decide +kernel
theorem dX12_coversOf_6 : decode cX12_coversOf 6 = .ok (.iload 5, 2) := by decide +kernel
theorem dX12_coversOf_8 : decode cX12_coversOf 8 = .ok (.invokevirtual 452, 3) := by decide +kernel
theorem dX12_coversOf_11 : decode cX12_coversOf 11 = .ok (.istore 6, 2) := by decide +kernel
theorem dX12_coversOf_13 : decode cX12_coversOf 13 = .ok (.iload 6, 2) := by decide +kernel
theorem dX12_coversOf_15 : decode cX12_coversOf 15 = .ok (.iconst (-1), 1) := by decide +kernel
theorem dX12_coversOf_16 : decode cX12_coversOf 16 = .ok (.if_icmp .ne 5, 3) := by decide +kernel
theorem dX12_coversOf_19 : decode cX12_coversOf 19 = .ok (.iconst (-1), 1) := by decide +kernel
theorem dX12_coversOf_20 : decode cX12_coversOf 20 = .ok (.ireturn, 1) := by decide +kernel
theorem dX12_coversOf_21 : decode cX12_coversOf 21 = .ok (.aload_n 0, 1) := by decide +kernel
theorem dX12_coversOf_22 : decode cX12_coversOf 22 = .ok (.iload_n 2, 1) := by decide +kernel
theorem dX12_coversOf_23 : decode cX12_coversOf 23 = .ok (.invokevirtual 440, 3) := by decide +kernel
theorem dX12_coversOf_26 : decode cX12_coversOf 26 = .ok (.ifCond .eq 10, 3) := by decide +kernel
theorem dX12_coversOf_29 : decode cX12_coversOf 29 = .ok (.iload 6, 2) := by decide +kernel
theorem dX12_coversOf_31 : decode cX12_coversOf 31 = .ok (.iconst 5, 1) := by decide +kernel
theorem dX12_coversOf_32 : decode cX12_coversOf 32 = .ok (.isub, 1) := by decide +kernel
theorem dX12_coversOf_33 : decode cX12_coversOf 33 = .ok (.goto 4, 3) := by decide +kernel
theorem dX12_coversOf_36 : decode cX12_coversOf 36 = .ok (.iconst 1, 1) := by decide +kernel
theorem dX12_coversOf_37 : decode cX12_coversOf 37 = .ok (.istore 7, 2) := by decide +kernel
theorem dX12_coversOf_39 : decode cX12_coversOf 39 = .ok (.aload_n 0, 1) := by decide +kernel
theorem dX12_coversOf_40 : decode cX12_coversOf 40 = .ok (.iload_n 2, 1) := by decide +kernel
theorem dX12_coversOf_41 : decode cX12_coversOf 41 = .ok (.invokevirtual 440, 3) := by decide +kernel
theorem dX12_coversOf_44 : decode cX12_coversOf 44 = .ok (.ifCond .eq 10, 3) := by decide +kernel
theorem dX12_coversOf_47 : decode cX12_coversOf 47 = .ok (.iload 6, 2) := by decide +kernel
theorem dX12_coversOf_49 : decode cX12_coversOf 49 = .ok (.iconst 1, 1) := by decide +kernel
theorem dX12_coversOf_50 : decode cX12_coversOf 50 = .ok (.iadd, 1) := by decide +kernel
theorem dX12_coversOf_51 : decode cX12_coversOf 51 = .ok (.goto 5, 3) := by decide +kernel
theorem dX12_coversOf_54 : decode cX12_coversOf 54 = .ok (.iload 6, 2) := by decide +kernel
theorem dX12_coversOf_56 : decode cX12_coversOf 56 = .ok (.istore 8, 2) := by decide +kernel
theorem dX12_coversOf_58 : decode cX12_coversOf 58 = .ok (.iconst 0, 1) := by decide +kernel
theorem dX12_coversOf_59 : decode cX12_coversOf 59 = .ok (.istore 9, 2) := by decide +kernel
theorem dX12_coversOf_61 : decode cX12_coversOf 61 = .ok (.iconst 0, 1) := by decide +kernel
theorem dX12_coversOf_62 : decode cX12_coversOf 62 = .ok (.istore 10, 2) := by decide +kernel
theorem dX12_coversOf_64 : decode cX12_coversOf 64 = .ok (.iload 10, 2) := by decide +kernel
theorem dX12_coversOf_66 : decode cX12_coversOf 66 = .ok (.aload_n 0, 1) := by decide +kernel
theorem dX12_coversOf_67 : decode cX12_coversOf 67 = .ok (.getfield 45, 3) := by decide +kernel
theorem dX12_coversOf_70 : decode cX12_coversOf 70 = .ok (.iload_n 1, 1) := by decide +kernel
theorem dX12_coversOf_71 : decode cX12_coversOf 71 = .ok (.iaload, 1) := by decide +kernel
theorem dX12_coversOf_72 : decode cX12_coversOf 72 = .ok (.if_icmp .ge 76, 3) := by decide +kernel
theorem dX12_coversOf_75 : decode cX12_coversOf 75 = .ok (.aload_n 0, 1) := by decide +kernel
theorem dX12_coversOf_76 : decode cX12_coversOf 76 = .ok (.getfield 48, 3) := by decide +kernel
theorem dX12_coversOf_79 : decode cX12_coversOf 79 = .ok (.bipush 12, 2) := by decide +kernel
theorem dX12_coversOf_81 : decode cX12_coversOf 81 = .ok (.iload_n 1, 1) := by decide +kernel
theorem dX12_coversOf_82 : decode cX12_coversOf 82 = .ok (.imul, 1) := by decide +kernel
theorem dX12_coversOf_83 : decode cX12_coversOf 83 = .ok (.iload 10, 2) := by decide +kernel
theorem dX12_coversOf_85 : decode cX12_coversOf 85 = .ok (.iadd, 1) := by decide +kernel
theorem dX12_coversOf_86 : decode cX12_coversOf 86 = .ok (.iaload, 1) := by decide +kernel
theorem dX12_coversOf_87 : decode cX12_coversOf 87 = .ok (.istore 11, 2) := by decide +kernel
theorem dX12_coversOf_89 : decode cX12_coversOf 89 = .ok (.aload_n 0, 1) := by decide +kernel
theorem dX12_coversOf_90 : decode cX12_coversOf 90 = .ok (.getfield 51, 3) := by decide +kernel
theorem dX12_coversOf_93 : decode cX12_coversOf 93 = .ok (.bipush 12, 2) := by decide +kernel
theorem dX12_coversOf_95 : decode cX12_coversOf 95 = .ok (.iload_n 1, 1) := by decide +kernel
theorem dX12_coversOf_96 : decode cX12_coversOf 96 = .ok (.imul, 1) := by decide +kernel
theorem dX12_coversOf_97 : decode cX12_coversOf 97 = .ok (.iload 10, 2) := by decide +kernel
theorem dX12_coversOf_99 : decode cX12_coversOf 99 = .ok (.iadd, 1) := by decide +kernel
theorem dX12_coversOf_100 : decode cX12_coversOf 100 = .ok (.iaload, 1) := by decide +kernel
theorem dX12_coversOf_101 : decode cX12_coversOf 101 = .ok (.istore 12, 2) := by decide +kernel
theorem dX12_coversOf_103 : decode cX12_coversOf 103 = .ok (.iload 11, 2) := by decide +kernel
theorem dX12_coversOf_105 : decode cX12_coversOf 105 = .ok (.iload_n 3, 1) := by decide +kernel
theorem dX12_coversOf_106 : decode cX12_coversOf 106 = .ok (.iconst 1, 1) := by decide +kernel
theorem dX12_coversOf_107 : decode cX12_coversOf 107 = .ok (.isub, 1) := by decide +kernel
theorem dX12_coversOf_108 : decode cX12_coversOf 108 = .ok (.if_icmp .lt 34, 3) := by decide +kernel
theorem dX12_coversOf_111 : decode cX12_coversOf 111 = .ok (.iload 11, 2) := by decide +kernel
theorem dX12_coversOf_113 : decode cX12_coversOf 113 = .ok (.iload_n 3, 1) := by decide +kernel
theorem dX12_coversOf_114 : decode cX12_coversOf 114 = .ok (.iconst 1, 1) := by decide +kernel
theorem dX12_coversOf_115 : decode cX12_coversOf 115 = .ok (.iadd, 1) := by decide +kernel
theorem dX12_coversOf_116 : decode cX12_coversOf 116 = .ok (.if_icmp .gt 26, 3) := by decide +kernel
theorem dX12_coversOf_119 : decode cX12_coversOf 119 = .ok (.iload 12, 2) := by decide +kernel
theorem dX12_coversOf_121 : decode cX12_coversOf 121 = .ok (.iload 7, 2) := by decide +kernel
theorem dX12_coversOf_123 : decode cX12_coversOf 123 = .ok (.if_icmp .lt 19, 3) := by decide +kernel
theorem dX12_coversOf_126 : decode cX12_coversOf 126 = .ok (.iload 12, 2) := by decide +kernel
theorem dX12_coversOf_128 : decode cX12_coversOf 128 = .ok (.iload 8, 2) := by decide +kernel
theorem dX12_coversOf_130 : decode cX12_coversOf 130 = .ok (.if_icmp .gt 12, 3) := by decide +kernel
theorem dX12_coversOf_133 : decode cX12_coversOf 133 = .ok (.iload 9, 2) := by decide +kernel
theorem dX12_coversOf_135 : decode cX12_coversOf 135 = .ok (.iconst 1, 1) := by decide +kernel
theorem dX12_coversOf_136 : decode cX12_coversOf 136 = .ok (.iload 10, 2) := by decide +kernel
theorem dX12_coversOf_138 : decode cX12_coversOf 138 = .ok (.ishl, 1) := by decide +kernel
theorem dX12_coversOf_139 : decode cX12_coversOf 139 = .ok (.ior, 1) := by decide +kernel
theorem dX12_coversOf_140 : decode cX12_coversOf 140 = .ok (.istore 9, 2) := by decide +kernel
theorem dX12_coversOf_142 : decode cX12_coversOf 142 = .ok (.iinc 10 1, 3) := by decide +kernel
theorem dX12_coversOf_145 : decode cX12_coversOf 145 = .ok (.goto (-81), 3) := by decide +kernel
theorem dX12_coversOf_148 : decode cX12_coversOf 148 = .ok (.iload 9, 2) := by decide +kernel
theorem dX12_coversOf_150 : decode cX12_coversOf 150 = .ok (.ireturn, 1) := by decide +kernel
theorem dX12_isSetting_0 : decode cX12_isSetting 0 = .ok (.aload_n 0, 1) := by decide +kernel
theorem dX12_isSetting_1 : decode cX12_isSetting 1 = .ok (.iload_n 1, 1) := by decide +kernel
theorem dX12_isSetting_2 : decode cX12_isSetting 2 = .ok (.invokevirtual 437, 3) := by decide +kernel
theorem dX12_isSetting_5 : decode cX12_isSetting 5 = .ok (.ifCond .eq 51, 3) := by decide +kernel
theorem dX12_isSetting_8 : decode cX12_isSetting 8 = .ok (.iload_n 2, 1) := by decide +kernel
theorem dX12_isSetting_9 : decode cX12_isSetting 9 = .ok (.ifCond .lt 47, 3) := by decide +kernel
theorem dX12_isSetting_12 : decode cX12_isSetting 12 = .ok (.iload_n 2, 1) := by decide +kernel
theorem dX12_isSetting_13 : decode cX12_isSetting 13 = .ok (.aload_n 0, 1) := by decide +kernel
theorem dX12_isSetting_14 : decode cX12_isSetting 14 = .ok (.getfield 391, 3) := by decide +kernel
theorem dX12_isSetting_17 : decode cX12_isSetting 17 = .ok (.aload_n 0, 1) := by decide +kernel
theorem dX12_isSetting_18 : decode cX12_isSetting 18 = .ok (.getfield 394, 3) := by decide +kernel
theorem dX12_isSetting_21 : decode cX12_isSetting 21 = .ok (.iadd, 1) := by decide +kernel
theorem dX12_isSetting_22 : decode cX12_isSetting 22 = .ok (.if_icmp .ge 34, 3) := by decide +kernel
theorem dX12_isSetting_25 : decode cX12_isSetting 25 = .ok (.iload_n 3, 1) := by decide +kernel
theorem dX12_isSetting_26 : decode cX12_isSetting 26 = .ok (.ifCond .lt 30, 3) := by decide +kernel
theorem dX12_isSetting_29 : decode cX12_isSetting 29 = .ok (.iload_n 3, 1) := by decide +kernel
theorem dX12_isSetting_30 : decode cX12_isSetting 30 = .ok (.aload_n 0, 1) := by decide +kernel
theorem dX12_isSetting_31 : decode cX12_isSetting 31 = .ok (.getfield 33, 3) := by decide +kernel
theorem dX12_isSetting_34 : decode cX12_isSetting 34 = .ok (.iload_n 1, 1) := by decide +kernel
theorem dX12_isSetting_35 : decode cX12_isSetting 35 = .ok (.iaload, 1) := by decide +kernel
theorem dX12_isSetting_36 : decode cX12_isSetting 36 = .ok (.if_icmp .ge 20, 3) := by decide +kernel
theorem dX12_isSetting_39 : decode cX12_isSetting 39 = .ok (.iload 4, 2) := by decide +kernel
theorem dX12_isSetting_41 : decode cX12_isSetting 41 = .ok (.iconst 1, 1) := by decide +kernel
theorem dX12_isSetting_42 : decode cX12_isSetting 42 = .ok (.if_icmp .lt 14, 3) := by decide +kernel
theorem dX12_isSetting_45 : decode cX12_isSetting 45 = .ok (.iload 4, 2) := by decide +kernel
theorem dX12_isSetting_47 : decode cX12_isSetting 47 = .ok (.bipush 9, 2) := by decide +kernel
theorem dX12_isSetting_49 : decode cX12_isSetting 49 = .ok (.if_icmp .gt 7, 3) := by decide +kernel
theorem dX12_isSetting_52 : decode cX12_isSetting 52 = .ok (.iconst 1, 1) := by decide +kernel
theorem dX12_isSetting_53 : decode cX12_isSetting 53 = .ok (.goto 4, 3) := by decide +kernel
theorem dX12_isSetting_56 : decode cX12_isSetting 56 = .ok (.iconst 0, 1) := by decide +kernel
theorem dX12_isSetting_57 : decode cX12_isSetting 57 = .ok (.ireturn, 1) := by decide +kernel
theorem dX12_top_0 : decode cX12_top 0 = .ok (.aload_n 0, 1) := by decide +kernel
theorem dX12_top_1 : decode cX12_top 1 = .ok (.iconst 0, 1) := by decide +kernel
theorem dX12_top_2 : decode cX12_top 2 = .ok (.putfield 195, 3) := by decide +kernel
theorem dX12_top_5 : decode cX12_top 5 = .ok (.aload_n 0, 1) := by decide +kernel
theorem dX12_top_6 : decode cX12_top 6 = .ok (.iload_n 1, 1) := by decide +kernel
theorem dX12_top_7 : decode cX12_top 7 = .ok (.iload_n 2, 1) := by decide +kernel
theorem dX12_top_8 : decode cX12_top 8 = .ok (.iload_n 3, 1) := by decide +kernel
theorem dX12_top_9 : decode cX12_top 9 = .ok (.iload 4, 2) := by decide +kernel
theorem dX12_top_11 : decode cX12_top 11 = .ok (.invokevirtual 456, 3) := by decide +kernel
theorem dX12_top_14 : decode cX12_top 14 = .ok (.ifCond .eq 17, 3) := by decide +kernel
theorem dX12_top_17 : decode cX12_top 17 = .ok (.aload_n 0, 1) := by decide +kernel
theorem dX12_top_18 : decode cX12_top 18 = .ok (.iload_n 1, 1) := by decide +kernel
theorem dX12_top_19 : decode cX12_top 19 = .ok (.iload_n 2, 1) := by decide +kernel
theorem dX12_top_20 : decode cX12_top 20 = .ok (.iload_n 3, 1) := by decide +kernel
theorem dX12_top_21 : decode cX12_top 21 = .ok (.iload 4, 2) := by decide +kernel
theorem dX12_top_23 : decode cX12_top 23 = .ok (.iload 5, 2) := by decide +kernel
theorem dX12_top_25 : decode cX12_top 25 = .ok (.invokevirtual 452, 3) := by decide +kernel
theorem dX12_top_28 : decode cX12_top 28 = .ok (.goto 4, 3) := by decide +kernel
theorem dX12_top_31 : decode cX12_top 31 = .ok (.iconst (-1), 1) := by decide +kernel
theorem dX12_top_32 : decode cX12_top 32 = .ok (.ireturn, 1) := by decide +kernel
theorem dX12_covers_0 : decode cX12_covers 0 = .ok (.aload_n 0, 1) := by decide +kernel
theorem dX12_covers_1 : decode cX12_covers 1 = .ok (.iconst 0, 1) := by decide +kernel
theorem dX12_covers_2 : decode cX12_covers 2 = .ok (.putfield 195, 3) := by decide +kernel
theorem dX12_covers_5 : decode cX12_covers 5 = .ok (.aload_n 0, 1) := by decide +kernel
theorem dX12_covers_6 : decode cX12_covers 6 = .ok (.iload_n 1, 1) := by decide +kernel
theorem dX12_covers_7 : decode cX12_covers 7 = .ok (.iload_n 2, 1) := by decide +kernel
theorem dX12_covers_8 : decode cX12_covers 8 = .ok (.iload_n 3, 1) := by decide +kernel
theorem dX12_covers_9 : decode cX12_covers 9 = .ok (.iload 4, 2) := by decide +kernel
theorem dX12_covers_11 : decode cX12_covers 11 = .ok (.invokevirtual 456, 3) := by decide +kernel
theorem dX12_covers_14 : decode cX12_covers 14 = .ok (.ifCond .eq 17, 3) := by decide +kernel
theorem dX12_covers_17 : decode cX12_covers 17 = .ok (.aload_n 0, 1) := by decide +kernel
theorem dX12_covers_18 : decode cX12_covers 18 = .ok (.iload_n 1, 1) := by decide +kernel
theorem dX12_covers_19 : decode cX12_covers 19 = .ok (.iload_n 2, 1) := by decide +kernel
theorem dX12_covers_20 : decode cX12_covers 20 = .ok (.iload_n 3, 1) := by decide +kernel
theorem dX12_covers_21 : decode cX12_covers 21 = .ok (.iload 4, 2) := by decide +kernel
theorem dX12_covers_23 : decode cX12_covers 23 = .ok (.iload 5, 2) := by decide +kernel
theorem dX12_covers_25 : decode cX12_covers 25 = .ok (.invokevirtual 460, 3) := by decide +kernel
theorem dX12_covers_28 : decode cX12_covers 28 = .ok (.goto 4, 3) := by decide +kernel
theorem dX12_covers_31 : decode cX12_covers 31 = .ok (.iconst (-1), 1) := by decide +kernel
theorem dX12_covers_32 : decode cX12_covers 32 = .ok (.ireturn, 1) := by decide +kernel
theorem dX12_areTools_0 : decode cX12_areTools 0 = .ok (.iload_n 1, 1) := by decide +kernel
theorem dX12_areTools_1 : decode cX12_areTools 1 = .ok (.ifCond .lt 22, 3) := by decide +kernel
theorem dX12_areTools_4 : decode cX12_areTools 4 = .ok (.iload_n 1, 1) := by decide +kernel
theorem dX12_areTools_5 : decode cX12_areTools 5 = .ok (.iconst 1, 1) := by decide +kernel
theorem dX12_areTools_6 : decode cX12_areTools 6 = .ok (.aload_n 0, 1) := by decide +kernel
theorem dX12_areTools_7 : decode cX12_areTools 7 = .ok (.getfield 391, 3) := by decide +kernel
theorem dX12_areTools_10 : decode cX12_areTools 10 = .ok (.aload_n 0, 1) := by decide +kernel
theorem dX12_areTools_11 : decode cX12_areTools 11 = .ok (.getfield 394, 3) := by decide +kernel
theorem dX12_areTools_14 : decode cX12_areTools 14 = .ok (.iadd, 1) := by decide +kernel
theorem dX12_areTools_15 : decode cX12_areTools 15 = .ok (.ishl, 1) := by decide +kernel
theorem dX12_areTools_16 : decode cX12_areTools 16 = .ok (.if_icmp .ge 7, 3) := by decide +kernel
theorem dX12_areTools_19 : decode cX12_areTools 19 = .ok (.iconst 1, 1) := by decide +kernel
theorem dX12_areTools_20 : decode cX12_areTools 20 = .ok (.goto 4, 3) := by decide +kernel
theorem dX12_areTools_23 : decode cX12_areTools 23 = .ok (.iconst 0, 1) := by decide +kernel
theorem dX12_areTools_24 : decode cX12_areTools 24 = .ok (.ireturn, 1) := by decide +kernel
theorem dX12_gathers_0 : decode cX12_gathers 0 = .ok (.aload_n 0, 1) := by decide +kernel
theorem dX12_gathers_1 : decode cX12_gathers 1 = .ok (.iconst 0, 1) := by decide +kernel
theorem dX12_gathers_2 : decode cX12_gathers 2 = .ok (.putfield 463, 3) := by decide +kernel
theorem dX12_gathers_5 : decode cX12_gathers 5 = .ok (.iconst 0, 1) := by decide +kernel
theorem dX12_gathers_6 : decode cX12_gathers 6 = .ok (.istore 4, 2) := by decide +kernel
theorem dX12_gathers_8 : decode cX12_gathers 8 = .ok (.iconst 0, 1) := by decide +kernel
theorem dX12_gathers_9 : decode cX12_gathers 9 = .ok (.istore 5, 2) := by decide +kernel
theorem dX12_gathers_11 : decode cX12_gathers 11 = .ok (.iload 5, 2) := by decide +kernel
theorem dX12_gathers_13 : decode cX12_gathers 13 = .ok (.aload_n 0, 1) := by decide +kernel
theorem dX12_gathers_14 : decode cX12_gathers 14 = .ok (.getfield 391, 3) := by decide +kernel
theorem dX12_gathers_17 : decode cX12_gathers 17 = .ok (.aload_n 0, 1) := by decide +kernel
theorem dX12_gathers_18 : decode cX12_gathers 18 = .ok (.getfield 394, 3) := by decide +kernel
theorem dX12_gathers_21 : decode cX12_gathers 21 = .ok (.iadd, 1) := by decide +kernel
theorem dX12_gathers_22 : decode cX12_gathers 22 = .ok (.if_icmp .ge 147, 3) := by decide +kernel
theorem dX12_gathers_25 : decode cX12_gathers 25 = .ok (.iconst 0, 1) := by decide +kernel
theorem dX12_gathers_26 : decode cX12_gathers 26 = .ok (.istore 6, 2) := by decide +kernel
theorem dX12_gathers_28 : decode cX12_gathers 28 = .ok (.iload 6, 2) := by decide +kernel
theorem dX12_gathers_30 : decode cX12_gathers 30 = .ok (.aload_n 0, 1) := by decide +kernel
theorem dX12_gathers_31 : decode cX12_gathers 31 = .ok (.getfield 33, 3) := by decide +kernel
theorem dX12_gathers_34 : decode cX12_gathers 34 = .ok (.iload_n 1, 1) := by decide +kernel
theorem dX12_gathers_35 : decode cX12_gathers 35 = .ok (.iaload, 1) := by decide +kernel
theorem dX12_gathers_36 : decode cX12_gathers 36 = .ok (.if_icmp .ge 127, 3) := by decide +kernel
theorem dX12_gathers_39 : decode cX12_gathers 39 = .ok (.iload_n 2, 1) := by decide +kernel
theorem dX12_gathers_40 : decode cX12_gathers 40 = .ok (.iload 5, 2) := by decide +kernel
theorem dX12_gathers_42 : decode cX12_gathers 42 = .ok (.ishr, 1) := by decide +kernel
theorem dX12_gathers_43 : decode cX12_gathers 43 = .ok (.iconst 1, 1) := by decide +kernel
theorem dX12_gathers_44 : decode cX12_gathers 44 = .ok (.iand, 1) := by decide +kernel
theorem dX12_gathers_45 : decode cX12_gathers 45 = .ok (.iconst 1, 1) := by decide +kernel
theorem dX12_gathers_46 : decode cX12_gathers 46 = .ok (.if_icmp .ne 117, 3) := by decide +kernel
theorem dX12_gathers_49 : decode cX12_gathers 49 = .ok (.iconst 1, 1) := by decide +kernel
theorem dX12_gathers_50 : decode cX12_gathers 50 = .ok (.istore 7, 2) := by decide +kernel
theorem dX12_gathers_52 : decode cX12_gathers 52 = .ok (.iload 7, 2) := by decide +kernel
theorem dX12_gathers_54 : decode cX12_gathers 54 = .ok (.bipush 9, 2) := by decide +kernel
theorem dX12_gathers_56 : decode cX12_gathers 56 = .ok (.if_icmp .gt 101, 3) := by decide +kernel
theorem dX12_gathers_59 : decode cX12_gathers 59 = .ok (.aload_n 0, 1) := by decide +kernel
theorem dX12_gathers_60 : decode cX12_gathers 60 = .ok (.iload_n 1, 1) := by decide +kernel
theorem dX12_gathers_61 : decode cX12_gathers 61 = .ok (.iload 5, 2) := by decide +kernel
theorem dX12_gathers_63 : decode cX12_gathers 63 = .ok (.iload 6, 2) := by decide +kernel
theorem dX12_gathers_65 : decode cX12_gathers 65 = .ok (.iload 7, 2) := by decide +kernel
theorem dX12_gathers_67 : decode cX12_gathers 67 = .ok (.iload_n 3, 1) := by decide +kernel
theorem dX12_gathers_68 : decode cX12_gathers 68 = .ok (.invokevirtual 460, 3) := by decide +kernel
theorem dX12_gathers_71 : decode cX12_gathers 71 = .ok (.istore 8, 2) := by decide +kernel
theorem dX12_gathers_73 : decode cX12_gathers 73 = .ok (.iload 8, 2) := by decide +kernel
theorem dX12_gathers_75 : decode cX12_gathers 75 = .ok (.ifCond .le 76, 3) := by decide +kernel
theorem dX12_gathers_78 : decode cX12_gathers 78 = .ok (.aload_n 0, 1) := by decide +kernel
theorem dX12_gathers_79 : decode cX12_gathers 79 = .ok (.getfield 113, 3) := by decide +kernel
theorem dX12_gathers_82 : decode cX12_gathers 82 = .ok (.iconst 0, 1) := by decide +kernel
theorem dX12_gathers_83 : decode cX12_gathers 83 = .ok (.aload_n 0, 1) := by decide +kernel
theorem dX12_gathers_84 : decode cX12_gathers 84 = .ok (.getfield 463, 3) := by decide +kernel
theorem dX12_gathers_87 : decode cX12_gathers 87 = .ok (.iload 8, 2) := by decide +kernel
theorem dX12_gathers_89 : decode cX12_gathers 89 = .ok (.invokestatic 264, 3) := by decide +kernel
theorem dX12_gathers_92 : decode cX12_gathers 92 = .ok (.iconst (-1), 1) := by decide +kernel
theorem dX12_gathers_93 : decode cX12_gathers 93 = .ok (.if_icmp .eq 6, 3) := by decide +kernel
theorem dX12_gathers_96 : decode cX12_gathers 96 = .ok (.goto 55, 3) := by decide +kernel
theorem dX12_gathers_99 : decode cX12_gathers 99 = .ok (.aload_n 0, 1) := by decide +kernel
theorem dX12_gathers_100 : decode cX12_gathers 100 = .ok (.getfield 113, 3) := by decide +kernel
theorem dX12_gathers_103 : decode cX12_gathers 103 = .ok (.aload_n 0, 1) := by decide +kernel
theorem dX12_gathers_104 : decode cX12_gathers 104 = .ok (.getfield 463, 3) := by decide +kernel
theorem dX12_gathers_107 : decode cX12_gathers 107 = .ok (.iload 8, 2) := by decide +kernel
theorem dX12_gathers_109 : decode cX12_gathers 109 = .ok (.iastore, 1) := by decide +kernel
theorem dX12_gathers_110 : decode cX12_gathers 110 = .ok (.aload_n 0, 1) := by decide +kernel
theorem dX12_gathers_111 : decode cX12_gathers 111 = .ok (.getfield 116, 3) := by decide +kernel
theorem dX12_gathers_114 : decode cX12_gathers 114 = .ok (.aload_n 0, 1) := by decide +kernel
theorem dX12_gathers_115 : decode cX12_gathers 115 = .ok (.getfield 463, 3) := by decide +kernel
theorem dX12_gathers_118 : decode cX12_gathers 118 = .ok (.iload 5, 2) := by decide +kernel
theorem dX12_gathers_120 : decode cX12_gathers 120 = .ok (.bipush 16, 2) := by decide +kernel
theorem dX12_gathers_122 : decode cX12_gathers 122 = .ok (.iload 6, 2) := by decide +kernel
theorem dX12_gathers_124 : decode cX12_gathers 124 = .ok (.imul, 1) := by decide +kernel
theorem dX12_gathers_125 : decode cX12_gathers 125 = .ok (.iadd, 1) := by decide +kernel
theorem dX12_gathers_126 : decode cX12_gathers 126 = .ok (.sipush 256, 3) := by decide +kernel
theorem dX12_gathers_129 : decode cX12_gathers 129 = .ok (.iload 7, 2) := by decide +kernel
theorem dX12_gathers_131 : decode cX12_gathers 131 = .ok (.imul, 1) := by decide +kernel
theorem dX12_gathers_132 : decode cX12_gathers 132 = .ok (.iadd, 1) := by decide +kernel
theorem dX12_gathers_133 : decode cX12_gathers 133 = .ok (.iastore, 1) := by decide +kernel
theorem dX12_gathers_134 : decode cX12_gathers 134 = .ok (.aload_n 0, 1) := by decide +kernel
theorem dX12_gathers_135 : decode cX12_gathers 135 = .ok (.dup, 1) := by decide +kernel
theorem dX12_gathers_136 : decode cX12_gathers 136 = .ok (.getfield 463, 3) := by decide +kernel
theorem dX12_gathers_139 : decode cX12_gathers 139 = .ok (.iconst 1, 1) := by decide +kernel
theorem dX12_gathers_140 : decode cX12_gathers 140 = .ok (.iadd, 1) := by decide +kernel
theorem dX12_gathers_141 : decode cX12_gathers 141 = .ok (.putfield 463, 3) := by decide +kernel
theorem dX12_gathers_144 : decode cX12_gathers 144 = .ok (.iload 4, 2) := by decide +kernel
theorem dX12_gathers_146 : decode cX12_gathers 146 = .ok (.iload 8, 2) := by decide +kernel
theorem dX12_gathers_148 : decode cX12_gathers 148 = .ok (.ior, 1) := by decide +kernel
theorem dX12_gathers_149 : decode cX12_gathers 149 = .ok (.istore 4, 2) := by decide +kernel
theorem dX12_gathers_151 : decode cX12_gathers 151 = .ok (.iinc 7 1, 3) := by decide +kernel
theorem dX12_gathers_154 : decode cX12_gathers 154 = .ok (.goto (-102), 3) := by decide +kernel
theorem dX12_gathers_157 : decode cX12_gathers 157 = .ok (.iinc 6 1, 3) := by decide +kernel
theorem dX12_gathers_160 : decode cX12_gathers 160 = .ok (.goto (-132), 3) := by decide +kernel
theorem dX12_gathers_163 : decode cX12_gathers 163 = .ok (.iinc 5 1, 3) := by decide +kernel
theorem dX12_gathers_166 : decode cX12_gathers 166 = .ok (.goto (-155), 3) := by decide +kernel
theorem dX12_gathers_169 : decode cX12_gathers 169 = .ok (.iload 4, 2) := by decide +kernel
theorem dX12_gathers_171 : decode cX12_gathers 171 = .ok (.ireturn, 1) := by decide +kernel
theorem dX12_fewestFor_0 : decode cX12_fewestFor 0 = .ok (.aload_n 0, 1) := by decide +kernel
theorem dX12_fewestFor_1 : decode cX12_fewestFor 1 = .ok (.iload_n 1, 1) := by decide +kernel
theorem dX12_fewestFor_2 : decode cX12_fewestFor 2 = .ok (.iload_n 2, 1) := by decide +kernel
theorem dX12_fewestFor_3 : decode cX12_fewestFor 3 = .ok (.iload_n 3, 1) := by decide +kernel
theorem dX12_fewestFor_4 : decode cX12_fewestFor 4 = .ok (.invokevirtual 466, 3) := by decide +kernel
theorem dX12_fewestFor_7 : decode cX12_fewestFor 7 = .ok (.istore 4, 2) := by decide +kernel
theorem dX12_fewestFor_9 : decode cX12_fewestFor 9 = .ok (.aload_n 0, 1) := by decide +kernel
theorem dX12_fewestFor_10 : decode cX12_fewestFor 10 = .ok (.getfield 119, 3) := by decide +kernel
theorem dX12_fewestFor_13 : decode cX12_fewestFor 13 = .ok (.iconst 0, 1) := by decide +kernel
theorem dX12_fewestFor_14 : decode cX12_fewestFor 14 = .ok (.iconst 0, 1) := by decide +kernel
theorem dX12_fewestFor_15 : decode cX12_fewestFor 15 = .ok (.iastore, 1) := by decide +kernel
theorem dX12_fewestFor_16 : decode cX12_fewestFor 16 = .ok (.iconst 1, 1) := by decide +kernel
theorem dX12_fewestFor_17 : decode cX12_fewestFor 17 = .ok (.istore 5, 2) := by decide +kernel
theorem dX12_fewestFor_19 : decode cX12_fewestFor 19 = .ok (.iload 5, 2) := by decide +kernel
